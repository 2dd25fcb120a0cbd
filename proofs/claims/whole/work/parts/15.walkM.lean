theorem s_X10_in {g : G0} {B : Nat → Nat} {n : Nat} {M : Mem} {a1 : Int} {a2 : Int} {a3 : Int} {r : Int} (hfl : g.2.2.2.2 = true) (h : g_X10_in a1 a2 a3 = r) : Cn g B n yX10_in cX10_in 3 (some .boolean) 1 [vI (a1), vI (a2), vI (a3)] M (QcI g B n r M) := by
  refine Cn.of (by decide +kernel) (Nat.le_of_ble_eq_true rfl) (fun X hg hnl hX hR => ?_)
  subst hg
  have hX : Ctx X cX10_in "TelegramFeelingsModel" 1 := hX
  unfold g_X10_in at h
  show JW X B n 0 0 0 [(0, vI (a1)), (1, vI (a2)), (2, vI (a3))] [] (M) (QM X (QcI (gX X) B n r M))
  refine j_iload_n hX 0 dX10_in_0 rfl rfl ?_
  refine j_iload_n hX 1 dX10_in_1 rfl rfl ?_
  refine j_icmp_lt hX (tgt := 14) dX10_in_2 (by decide) (fun hc => ?_) (fun hc => ?_)
  · rw [if_pos hc] at h
    refine j_iconst hX dX10_in_14 (rc rfl) ?_
    subst h
    exact j_zret hX hR (Or.inl rfl) dX10_in_15
  · rw [if_neg hc] at h
    refine j_iload_n hX 0 dX10_in_5 rfl rfl ?_
    refine j_iload_n hX 2 dX10_in_6 rfl rfl ?_
    refine j_icmp_gt hX (tgt := 14) dX10_in_7 (by decide) (fun hc => ?_) (fun hc => ?_)
    · rw [if_pos hc] at h
      refine j_iconst hX dX10_in_14 (rc rfl) ?_
      subst h
      exact j_zret hX hR (Or.inl rfl) dX10_in_15
    · rw [if_neg hc] at h
      refine j_iconst hX dX10_in_10 (rc rfl) ?_
      refine j_goto hX (tgt := 15) dX10_in_11 (by decide) ?_
      subst h
      exact j_zret hX hR (Or.inr rfl) dX10_in_15
theorem sl_X10_bitsOf_4 {X : K0} {B : Nat → Nat} {n : Nat} {M : Mem} {r : Int} (hX : Ctx X cX10_bitsOf "TelegramFeelingsModel" 1) (hR : CR X (some .int)) (hfl : (gX X).2.2.2.2 = true) (hnl : X.2.2.2.2.2.2.2.2.2.2.2.2.2.2 = 3)    : ∀ (fu : Nat) (v1 : Int) (v2 : Int), g_X10_bitsOf_L4 fu v1 v2 = some r → JW X B n 0 0 4 [(1, vI (v1)), (2, vI (v2))] [] (M) (QM X (QcI (gX X) B n r M)) := by
  intro fu
  induction fu with
  | zero =>
    intro v1 v2 h
    rw [g_X10_bitsOf_L4] at h
    cases h
  | succ fu ih =>
    intro v1 v2 h
    rw [g_X10_bitsOf_L4] at h
    refine j_iload_n hX 1 dX10_bitsOf_4 rfl rfl ?_
    refine j_if_eq hX (tgt := 20) dX10_bitsOf_5 (by decide) (fun hc => ?_) (fun hc => ?_)
    · rw [if_pos hc] at h
      refine j_iload_n hX 0 dX10_bitsOf_20 rfl rfl ?_
      cases h
      exact j_iret hX hR dX10_bitsOf_21
    · rw [if_neg hc] at h
      refine j_iinc (L' := [(1, vI (w32 (v1 + 1))), (2, vI (v2))]) hX 0 dX10_bitsOf_8 hnl (by decide) rfl rfl ?_
      refine j_iload_n hX 1 dX10_bitsOf_11 rfl rfl ?_
      refine j_iload_n hX 1 dX10_bitsOf_12 rfl rfl ?_
      refine j_iconst hX dX10_bitsOf_13 (rc rfl) ?_
      refine j_isub hX dX10_bitsOf_14 ?_
      refine j_iand hX dX10_bitsOf_15 ?_
      refine j_istore_n (L' := [(2, vI (o_and v2 (w32 (v2 - 1)))), (1, vI (w32 (v1 + 1)))]) hX dX10_bitsOf_16 rfl hnl (by decide) rfl ?_
      refine j_goto hX (tgt := 4) dX10_bitsOf_17 (by decide) ?_
      refine j_sub [1, 0] rfl ?_
      exact ih _ _ h
theorem s_X10_bitsOf {g : G0} {B : Nat → Nat} {n : Nat} {M : Mem} {a1 : Int} {r : Int} (hfl : g.2.2.2.2 = true) (h : g_X10_bitsOf a1 = some r) : Cn g B n yX10_bitsOf cX10_bitsOf 3 (some .int) 1 [vI (a1)] M (QcI g B n r M) := by
  refine Cn.of (by decide +kernel) (Nat.le_of_ble_eq_true rfl) (fun X hg hnl hX hR => ?_)
  subst hg
  have hX : Ctx X cX10_bitsOf "TelegramFeelingsModel" 1 := hX
  unfold g_X10_bitsOf at h
  show JW X B n 0 0 0 [(0, vI (a1))] [] (M) (QM X (QcI (gX X) B n r M))
  refine j_iconst hX dX10_bitsOf_0 (rc rfl) ?_
  refine j_istore_n (L' := [(1, vI (0)), (0, vI (a1))]) hX dX10_bitsOf_1 rfl hnl (by decide) rfl ?_
  refine j_iload_n hX 1 dX10_bitsOf_2 rfl rfl ?_
  refine j_istore_n (L' := [(2, vI (a1)), (1, vI (0)), (0, vI (a1))]) hX dX10_bitsOf_3 rfl hnl (by decide) rfl ?_
  refine j_sub [1, 0] rfl ?_
  refine sl_X10_bitsOf_4 hX hR hfl hnl  _ _ _ h
theorem s_X10_isWord {g : G0} {B : Nat → Nat} {n : Nat} {E : Mem → Mem} {a1 : Int} {S : Mem} {r : Int} (hfl : g.2.2.2.2 = true) (hE : Lens E PM) (h : g_X10_isWord a1 S = some r) : Cn g B n yX10_isWord cX10_isWord 2 (some .boolean) 2 [vR 56, vI (a1)] (E S) (QcI g B n r (E S)) := by
  refine Cn.of (by decide +kernel) (Nat.le_of_ble_eq_true rfl) (fun X hg hnl hX hR => ?_)
  subst hg
  have hX : Ctx X cX10_isWord "TelegramFeelingsModel" 2 := hX
  unfold g_X10_isWord at h
  show JW X B n 0 0 0 [(0, vR 56), (1, vI (a1))] [] (E S) (QM X (QcI (gX X) B n r (E S)))
  refine j_iload_n hX 1 dX10_isWord_0 rfl rfl ?_
  refine j_iconst hX dX10_isWord_1 (rc rfl) ?_
  refine j_aload_n hX 0 dX10_isWord_2 rfl rfl ?_
  refine j_getI (k := 1) hX hE cbX10 ty56 pc56 (by decide) rfl wd1141 rfl dX10_isWord_3 ?_
  refine j_iconst hX dX10_isWord_6 (rc rfl) ?_
  refine j_isub hX dX10_isWord_7 ?_
  refine j_callSI hX mwX10_in msX10_in wd1326 hyX10_in (by omega) (by decide) ⟨Nat.zero_le _, Nat.zero_le _⟩ dX10_isWord_8 (s_X10_in hfl rfl) npX10_in rfl (Nat.le_of_ble_eq_true rfl) ?_
  obtain ⟨hz, h⟩ := chk_s h
  cases h
  exact j_zret hX hR hz dX10_isWord_11
theorem s_X10_isPerson {g : G0} {B : Nat → Nat} {n : Nat} {E : Mem → Mem} {a1 : Int} {S : Mem} {r : Int} (hfl : g.2.2.2.2 = true) (hE : Lens E PM) (h : g_X10_isPerson a1 S = some r) : Cn g B n yX10_isPerson cX10_isPerson 2 (some .boolean) 2 [vR 56, vI (a1)] (E S) (QcI g B n r (E S)) := by
  refine Cn.of (by decide +kernel) (Nat.le_of_ble_eq_true rfl) (fun X hg hnl hX hR => ?_)
  subst hg
  have hX : Ctx X cX10_isPerson "TelegramFeelingsModel" 2 := hX
  unfold g_X10_isPerson at h
  show JW X B n 0 0 0 [(0, vR 56), (1, vI (a1))] [] (E S) (QM X (QcI (gX X) B n r (E S)))
  refine j_iload_n hX 1 dX10_isPerson_0 rfl rfl ?_
  refine j_iconst hX dX10_isPerson_1 (rc rfl) ?_
  refine j_aload_n hX 0 dX10_isPerson_2 rfl rfl ?_
  refine j_getI (k := 7) hX hE cbX10 ty56 pc56 (by decide) rfl wd1147 rfl dX10_isPerson_3 ?_
  refine j_iconst hX dX10_isPerson_6 (rc rfl) ?_
  refine j_isub hX dX10_isPerson_7 ?_
  refine j_callSI hX mwX10_in msX10_in wd1326 hyX10_in (by omega) (by decide) ⟨Nat.zero_le _, Nat.zero_le _⟩ dX10_isPerson_8 (s_X10_in hfl rfl) npX10_in rfl (Nat.le_of_ble_eq_true rfl) ?_
  obtain ⟨hz, h⟩ := chk_s h
  cases h
  exact j_zret hX hR hz dX10_isPerson_11
theorem s_X10_addWord {g : G0} {B : Nat → Nat} {n : Nat} {E : Mem → Mem} {a1 : Int} {a2 : Int} {a3 : Int} {S : Mem} {r : Int} {S' : Mem} (hfl : g.2.2.2.2 = true) (hE : Lens E PM) (h : g_X10_addWord a1 a2 a3 S = some (r, S')) : Cn g B n yX10_addWord cX10_addWord 4 (some .int) 1 [vR 56, vI (a1), vI (a2), vI (a3)] (E S) (QcI g B n r (E S')) := by
  refine Cn.of (by decide +kernel) (Nat.le_of_ble_eq_true rfl) (fun X hg hnl hX hR => ?_)
  subst hg
  have hX : Ctx X cX10_addWord "TelegramFeelingsModel" 1 := hX
  unfold g_X10_addWord at h
  show JW X B n 0 0 0 [(0, vR 56), (1, vI (a1)), (2, vI (a2)), (3, vI (a3))] [] (E S) (QM X (QcI (gX X) B n r (E S')))
  refine j_aload_n hX 0 dX10_addWord_0 rfl rfl ?_
  refine j_getS (k := 2) hX hfl cbX10 ty56 (by decide) rfl wd1142 rfl sb56_2 dX10_addWord_1 ?_
  refine j_aload_n hX 0 dX10_addWord_4 rfl rfl ?_
  refine j_getI (k := 1) hX hE cbX10 ty56 pc56 (by decide) rfl wd1141 rfl dX10_addWord_5 ?_
  refine j_iload_n hX 1 dX10_addWord_8 rfl rfl ?_
  obtain ⟨S1, hv, h⟩ := bs h
  refine j_iast hX hE ty57 pc57 hv dX10_addWord_9 ?_
  refine j_aload_n hX 0 dX10_addWord_10 rfl rfl ?_
  refine j_getS (k := 3) hX hfl cbX10 ty56 (by decide) rfl wd1143 rfl sb56_3 dX10_addWord_11 ?_
  refine j_aload_n hX 0 dX10_addWord_14 rfl rfl ?_
  refine j_getI (k := 1) hX hE cbX10 ty56 pc56 (by decide) rfl wd1141 rfl dX10_addWord_15 ?_
  refine j_iload_n hX 2 dX10_addWord_18 rfl rfl ?_
  obtain ⟨S2, hv, h⟩ := bs h
  refine j_iast hX hE ty58 pc58 hv dX10_addWord_19 ?_
  refine j_aload_n hX 0 dX10_addWord_20 rfl rfl ?_
  refine j_getS (k := 4) hX hfl cbX10 ty56 (by decide) rfl wd1144 rfl sb56_4 dX10_addWord_21 ?_
  refine j_aload_n hX 0 dX10_addWord_24 rfl rfl ?_
  refine j_getI (k := 1) hX hE cbX10 ty56 pc56 (by decide) rfl wd1141 rfl dX10_addWord_25 ?_
  refine j_iload_n hX 3 dX10_addWord_28 rfl rfl ?_
  obtain ⟨S3, hv, h⟩ := bs h
  refine j_iast hX hE ty59 pc59 hv dX10_addWord_29 ?_
  refine j_aload_n hX 0 dX10_addWord_30 rfl rfl ?_
  refine j_getS (k := 5) hX hfl cbX10 ty56 (by decide) rfl wd1145 rfl sb56_5 dX10_addWord_31 ?_
  refine j_aload_n hX 0 dX10_addWord_34 rfl rfl ?_
  refine j_getI (k := 1) hX hE cbX10 ty56 pc56 (by decide) rfl wd1141 rfl dX10_addWord_35 ?_
  refine j_iconst hX dX10_addWord_38 (rc rfl) ?_
  obtain ⟨S4, hv, h⟩ := bs h
  refine j_iast hX hE ty60 pc60 hv dX10_addWord_39 ?_
  refine j_aload_n hX 0 dX10_addWord_40 rfl rfl ?_
  refine j_getS (k := 6) hX hfl cbX10 ty56 (by decide) rfl wd1146 rfl sb56_6 dX10_addWord_41 ?_
  refine j_aload_n hX 0 dX10_addWord_44 rfl rfl ?_
  refine j_getI (k := 1) hX hE cbX10 ty56 pc56 (by decide) rfl wd1141 rfl dX10_addWord_45 ?_
  refine j_aload_n hX 0 dX10_addWord_48 rfl rfl ?_
  refine j_getI (k := 1) hX hE cbX10 ty56 pc56 (by decide) rfl wd1141 rfl dX10_addWord_49 ?_
  obtain ⟨S5, hv, h⟩ := bs h
  refine j_iast hX hE ty61 pc61 hv dX10_addWord_52 ?_
  refine j_aload_n hX 0 dX10_addWord_53 rfl rfl ?_
  refine j_dup hX dX10_addWord_54 rfl ?_
  refine j_getI (k := 1) hX hE cbX10 ty56 pc56 (by decide) rfl wd1141 rfl dX10_addWord_55 ?_
  refine j_iconst hX dX10_addWord_58 (rc rfl) ?_
  refine j_iadd hX dX10_addWord_59 ?_
  refine j_putI (k := 1) hX hE cbX10 ty56 pc56 (by decide) rfl wd1141 rfl (Or.inl rfl) rfl dX10_addWord_60 ?_
  obtain ⟨S6, hx, h⟩ := ap_s h
  rw [← hx]
  clear hx
  refine j_aload_n hX 0 dX10_addWord_63 rfl rfl ?_
  refine j_getI (k := 1) hX hE cbX10 ty56 pc56 (by decide) rfl wd1141 rfl dX10_addWord_64 ?_
  refine j_iconst hX dX10_addWord_67 (rc rfl) ?_
  refine j_isub hX dX10_addWord_68 ?_
  cases h
  exact j_iret hX hR dX10_addWord_69
theorem s_X10_word {g : G0} {B : Nat → Nat} {n : Nat} {E : Mem → Mem} {a1 : Int} {a2 : Int} {S : Mem} {r : Int} {S' : Mem} (hfl : g.2.2.2.2 = true) (hE : Lens E PM) (h : g_X10_word a1 a2 S = some (r, S')) : Cn g B n yX10_word cX10_word 3 (some .int) 2 [vR 56, vI (a1), vI (a2)] (E S) (QcI g B n r (E S')) := by
  refine Cn.of (by decide +kernel) (Nat.le_of_ble_eq_true rfl) (fun X hg hnl hX hR => ?_)
  subst hg
  have hX : Ctx X cX10_word "TelegramFeelingsModel" 2 := hX
  unfold g_X10_word at h
  show JW X B n 0 0 0 [(0, vR 56), (1, vI (a1)), (2, vI (a2))] [] (E S) (QM X (QcI (gX X) B n r (E S')))
  refine j_iload_n hX 1 dX10_word_0 rfl rfl ?_
  refine j_iconst hX dX10_word_1 (rc rfl) ?_
  refine j_bipush hX dX10_word_2 (rc rfl) (by decide) ?_
  refine j_callSI hX mwX10_in msX10_in wd1326 hyX10_in (by omega) (by decide) ⟨Nat.zero_le _, Nat.zero_le _⟩ dX10_word_4 (s_X10_in hfl rfl) npX10_in rfl (Nat.le_of_ble_eq_true rfl) ?_
  refine j_if_eq hX (tgt := 20) dX10_word_7 (by decide) (fun hc => ?_) (fun hc => ?_)
  · rw [if_pos hc] at h
    refine j_iconst hX dX10_word_20 (rc rfl) ?_
    cases h
    exact j_iret hX hR dX10_word_21
  · rw [if_neg hc] at h
    refine j_iload_n hX 2 dX10_word_10 rfl rfl ?_
    refine j_iconst hX dX10_word_11 (rc rfl) ?_
    refine j_bipush hX dX10_word_12 (rc rfl) (by decide) ?_
    refine j_callSI hX mwX10_in msX10_in wd1326 hyX10_in (by omega) (by decide) ⟨Nat.zero_le _, Nat.zero_le _⟩ dX10_word_14 (s_X10_in hfl rfl) npX10_in rfl (Nat.le_of_ble_eq_true rfl) ?_
    refine j_if_ne hX (tgt := 22) dX10_word_17 (by decide) (fun hc => ?_) (fun hc => ?_)
    · rw [if_neg hc] at h
      refine j_aload_n hX 0 dX10_word_22 rfl rfl ?_
      refine j_getI (k := 1) hX hE cbX10 ty56 pc56 (by decide) rfl wd1141 rfl dX10_word_23 ?_
      refine j_bipush hX dX10_word_26 (rc rfl) (by decide) ?_
      refine j_icmp_ne hX (tgt := 36) dX10_word_28 (by decide) (fun hc => ?_) (fun hc => ?_)
      · rw [if_neg hc] at h
        refine j_aload_n hX 0 dX10_word_36 rfl rfl ?_
        refine j_iload_n hX 1 dX10_word_37 rfl rfl ?_
        refine j_iload_n hX 2 dX10_word_38 rfl rfl ?_
        refine j_iconst hX dX10_word_39 (rc rfl) ?_
        obtain ⟨x2, S1, h1, h⟩ := bd2_s h
        refine j_callVI hX mwX10_addWord miX10_addWord wd1329 cbX10 ty56 hyX10_addWord (by omega) (by decide) ⟨Nat.zero_le _, Nat.zero_le _⟩ dX10_word_40 (s_X10_addWord hfl hE h1) npX10_addWord rfl (Nat.le_of_ble_eq_true rfl) ?_
        cases h
        exact j_iret hX hR dX10_word_43
      · rw [if_pos hc] at h
        refine j_bipush hX dX10_word_31 (rc rfl) (by decide) ?_
        refine j_goto hX (tgt := 43) dX10_word_33 (by decide) ?_
        cases h
        exact j_iret hX hR dX10_word_43
    · rw [if_pos hc] at h
      refine j_iconst hX dX10_word_20 (rc rfl) ?_
      cases h
      exact j_iret hX hR dX10_word_21
theorem s_X10_isShelf {g : G0} {B : Nat → Nat} {n : Nat} {M : Mem} {a1 : Int} {r : Int} (hfl : g.2.2.2.2 = true) (h : g_X10_isShelf a1 = some r) : Cn g B n yX10_isShelf cX10_isShelf 1 (some .boolean) 2 [vI (a1)] M (QcI g B n r M) := by
  refine Cn.of (by decide +kernel) (Nat.le_of_ble_eq_true rfl) (fun X hg hnl hX hR => ?_)
  subst hg
  have hX : Ctx X cX10_isShelf "TelegramFeelingsModel" 2 := hX
  unfold g_X10_isShelf at h
  show JW X B n 0 0 0 [(0, vI (a1))] [] (M) (QM X (QcI (gX X) B n r M))
  refine j_iload_n hX 0 dX10_isShelf_0 rfl rfl ?_
  refine j_iconst hX dX10_isShelf_1 (rc rfl) ?_
  refine j_iconst hX dX10_isShelf_2 (rc rfl) ?_
  refine j_callSI hX mwX10_in msX10_in wd1326 hyX10_in (by omega) (by decide) ⟨Nat.zero_le _, Nat.zero_le _⟩ dX10_isShelf_3 (s_X10_in hfl rfl) npX10_in rfl (Nat.le_of_ble_eq_true rfl) ?_
  obtain ⟨hz, h⟩ := chk_s h
  cases h
  exact j_zret hX hR hz dX10_isShelf_6
theorem sl_X10_words_58 {X : K0} {B : Nat → Nat} {n : Nat} {E : Mem → Mem} {r : Int} {S' : Mem} (hX : Ctx X cX10_words "TelegramFeelingsModel" 3) (hR : CR X (some .int)) (hfl : (gX X).2.2.2.2 = true) (hnl : X.2.2.2.2.2.2.2.2.2.2.2.2.2.2 = 8) (hE : Lens E PM)  {v1 : Int} {v2 : Int} {v3 : Int}  : ∀ (fu : Nat) (v4 : Int) (S : Mem), g_X10_words_L58 v1 v2 v3 fu v4 S = some (r, S') → JW X B n 0 0 58 [(0, vR 56), (1, vI (v1)), (2, vI (v2)), (3, vI (v3)), (4, vI (v4))] [] (E S) (QM X (QcI (gX X) B n r (E S'))) := by
  intro fu
  induction fu with
  | zero =>
    intro v4 S h
    rw [g_X10_words_L58] at h
    cases h
  | succ fu ih =>
    intro v4 S h
    rw [g_X10_words_L58] at h
    refine j_iload hX 4 dX10_words_58 rfl ?_
    refine j_iload_n hX 3 dX10_words_60 rfl rfl ?_
    refine j_icmp_ge hX (tgt := 216) dX10_words_61 (by decide) (fun hc => ?_) (fun hc => ?_)
    · rw [if_pos hc] at h
      refine j_iload_n hX 3 dX10_words_216 rfl rfl ?_
      cases h
      exact j_iret hX hR dX10_words_217
    · rw [if_neg hc] at h
      refine j_iload_n hX 2 dX10_words_64 rfl rfl ?_
      refine j_i2l hX dX10_words_65 ?_
      refine j_iconst hX dX10_words_66 (rc rfl) ?_
      refine j_iload hX 4 dX10_words_67 rfl ?_
      refine j_imul hX dX10_words_69 ?_
      refine j_i2l hX dX10_words_70 ?_
      refine j_ladd hX dX10_words_71 ?_
      obtain ⟨x4, hx, h⟩ := ap_s h
      rw [← hx]
      clear hx
      refine j_lstore (L' := [(5, vL (x4)), (0, vR 56), (1, vI (v1)), (2, vI (v2)), (3, vI (v3)), (4, vI (v4))]) hX dX10_words_72 hnl (by decide) rfl ?_
      refine j_lload hX 0 dX10_words_74 rfl ?_
      refine j_lconst (z := 0) hX dX10_words_76 rfl (rcl rfl) ?_
      refine j_lcmp hX dX10_words_77 ?_
      refine j_if_lt hX (tgt := 107) dX10_words_78 (by decide) (fun hc => ?_) (fun hc => ?_)
      · rw [if_pos hc] at h
        refine j_iload hX 5 dX10_words_107 rfl ?_
        cases h
        exact j_iret hX hR dX10_words_109
      · rw [if_neg hc] at h
        refine j_lload hX 0 dX10_words_81 rfl ?_
        refine j_ldc2 (z := 2) hX wd1340 (by decide) dX10_words_83 (rcl rfl) ?_
        refine j_ladd hX dX10_words_86 ?_
        refine j_aload_n hX 1 dX10_words_87 rfl rfl ?_
        refine j_getS (k := 57) hX hfl cbX10 ty56 (by decide) rfl wd1197 rfl sb56_57 dX10_words_88 ?_
        refine j_iload_n hX 2 dX10_words_91 rfl rfl ?_
        obtain ⟨x5, hv, h⟩ := bs h
        refine j_iald hX hE ty94 pc94 hv dX10_words_92 ?_
        refine j_i2l hX dX10_words_93 ?_
        refine j_lcmp hX dX10_words_94 ?_
        refine j_if_ge hX (tgt := 107) dX10_words_95 (by decide) (fun hc => ?_) (fun hc => ?_)
        · rw [if_pos hc] at h
          refine j_iload hX 5 dX10_words_107 rfl ?_
          cases h
          exact j_iret hX hR dX10_words_109
        · rw [if_neg hc] at h
          refine j_aload_n hX 1 dX10_words_98 rfl rfl ?_
          refine j_getI (k := 1) hX hE cbX10 ty56 pc56 (by decide) rfl wd1141 rfl dX10_words_99 ?_
          refine j_bipush hX dX10_words_102 (rc rfl) (by decide) ?_
          refine j_icmp_ne hX (tgt := 110) dX10_words_104 (by decide) (fun hc => ?_) (fun hc => ?_)
          · rw [if_neg hc] at h
            refine j_bipush hX dX10_words_110 (rc rfl) (by decide) ?_
            refine j_iload_n hX 2 dX10_words_112 rfl rfl ?_
            refine j_imul hX dX10_words_113 ?_
            refine j_lload hX 0 dX10_words_114 rfl ?_
            refine j_l2i hX dX10_words_116 ?_
            refine j_iadd hX dX10_words_117 ?_
            obtain ⟨x6, hx, h⟩ := ap_s h
            rw [← hx]
            clear hx
            refine j_istore (L' := [(7, vI (x6)), (5, vL (x4)), (0, vR 56), (1, vI (v1)), (2, vI (v2)), (3, vI (v3)), (4, vI (v4))]) hX dX10_words_118 hnl (by decide) rfl ?_
            refine j_aload_n hX 2 dX10_words_120 rfl rfl ?_
            refine j_getS (k := 58) hX hfl cbX10 ty56 (by decide) rfl wd1198 rfl sb56_58 dX10_words_121 ?_
            refine j_iload hX 0 dX10_words_124 rfl ?_
            obtain ⟨x7, hv, h⟩ := bs h
            refine j_lald hX hE ty95 pc95 hv dX10_words_126 ?_
            refine j_l2i hX dX10_words_127 ?_
            refine j_iconst hX dX10_words_128 (rc rfl) ?_
            refine j_bipush hX dX10_words_129 (rc rfl) (by decide) ?_
            refine j_callSI hX mwX10_in msX10_in wd1326 hyX10_in (by omega) (by decide) ⟨Nat.zero_le _, Nat.zero_le _⟩ dX10_words_131 (s_X10_in hfl rfl) npX10_in rfl (Nat.le_of_ble_eq_true rfl) ?_
            refine j_if_eq hX (tgt := 174) dX10_words_134 (by decide) (fun hc => ?_) (fun hc => ?_)
            · rw [if_pos hc] at h
              refine j_iload hX 6 dX10_words_174 rfl ?_
              cases h
              exact j_iret hX hR dX10_words_176
            · rw [if_neg hc] at h
              refine j_aload_n hX 2 dX10_words_137 rfl rfl ?_
              refine j_getS (k := 58) hX hfl cbX10 ty56 (by decide) rfl wd1198 rfl sb56_58 dX10_words_138 ?_
              refine j_iload hX 0 dX10_words_141 rfl ?_
              refine j_iconst hX dX10_words_143 (rc rfl) ?_
              refine j_iadd hX dX10_words_144 ?_
              obtain ⟨x8, hv, h⟩ := bs h
              refine j_lald hX hE ty95 pc95 hv dX10_words_145 ?_
              refine j_l2i hX dX10_words_146 ?_
              refine j_iconst hX dX10_words_147 (rc rfl) ?_
              refine j_bipush hX dX10_words_148 (rc rfl) (by decide) ?_
              refine j_callSI hX mwX10_in msX10_in wd1326 hyX10_in (by omega) (by decide) ⟨Nat.zero_le _, Nat.zero_le _⟩ dX10_words_150 (s_X10_in hfl rfl) npX10_in rfl (Nat.le_of_ble_eq_true rfl) ?_
              refine j_if_eq hX (tgt := 174) dX10_words_153 (by decide) (fun hc => ?_) (fun hc => ?_)
              · rw [if_pos hc] at h
                refine j_iload hX 6 dX10_words_174 rfl ?_
                cases h
                exact j_iret hX hR dX10_words_176
              · rw [if_neg hc] at h
                refine j_aload_n hX 2 dX10_words_156 rfl rfl ?_
                refine j_getS (k := 58) hX hfl cbX10 ty56 (by decide) rfl wd1198 rfl sb56_58 dX10_words_157 ?_
                refine j_iload hX 0 dX10_words_160 rfl ?_
                refine j_iconst hX dX10_words_162 (rc rfl) ?_
                refine j_iadd hX dX10_words_163 ?_
                obtain ⟨x9, hv, h⟩ := bs h
                refine j_lald hX hE ty95 pc95 hv dX10_words_164 ?_
                refine j_l2i hX dX10_words_165 ?_
                refine j_iconst hX dX10_words_166 (rc rfl) ?_
                refine j_iconst hX dX10_words_167 (rc rfl) ?_
                refine j_callSI hX mwX10_in msX10_in wd1326 hyX10_in (by omega) (by decide) ⟨Nat.zero_le _, Nat.zero_le _⟩ dX10_words_168 (s_X10_in hfl rfl) npX10_in rfl (Nat.le_of_ble_eq_true rfl) ?_
                refine j_if_ne hX (tgt := 177) dX10_words_171 (by decide) (fun hc => ?_) (fun hc => ?_)
                · rw [if_neg hc] at h
                  refine j_aload_n hX 2 dX10_words_177 rfl rfl ?_
                  refine j_aload_n hX 2 dX10_words_178 rfl rfl ?_
                  refine j_getS (k := 58) hX hfl cbX10 ty56 (by decide) rfl wd1198 rfl sb56_58 dX10_words_179 ?_
                  refine j_iload hX 0 dX10_words_182 rfl ?_
                  obtain ⟨x10, hv, h⟩ := bs h
                  refine j_lald hX hE ty95 pc95 hv dX10_words_184 ?_
                  refine j_l2i hX dX10_words_185 ?_
                  refine j_aload_n hX 2 dX10_words_186 rfl rfl ?_
                  refine j_getS (k := 58) hX hfl cbX10 ty56 (by decide) rfl wd1198 rfl sb56_58 dX10_words_187 ?_
                  refine j_iload hX 0 dX10_words_190 rfl ?_
                  refine j_iconst hX dX10_words_192 (rc rfl) ?_
                  refine j_iadd hX dX10_words_193 ?_
                  obtain ⟨x11, hv, h⟩ := bs h
                  refine j_lald hX hE ty95 pc95 hv dX10_words_194 ?_
                  refine j_l2i hX dX10_words_195 ?_
                  refine j_aload_n hX 2 dX10_words_196 rfl rfl ?_
                  refine j_getS (k := 58) hX hfl cbX10 ty56 (by decide) rfl wd1198 rfl sb56_58 dX10_words_197 ?_
                  refine j_iload hX 0 dX10_words_200 rfl ?_
                  refine j_iconst hX dX10_words_202 (rc rfl) ?_
                  refine j_iadd hX dX10_words_203 ?_
                  obtain ⟨x12, hv, h⟩ := bs h
                  refine j_lald hX hE ty95 pc95 hv dX10_words_204 ?_
                  refine j_l2i hX dX10_words_205 ?_
                  obtain ⟨x14, S13, h1, h⟩ := bd2_s h
                  refine j_callVI hX mwX10_addWord miX10_addWord wd1329 cbX10 ty56 hyX10_addWord (by omega) (by decide) ⟨Nat.zero_le _, Nat.zero_le _⟩ dX10_words_206 (s_X10_addWord hfl hE h1) npX10_addWord rfl (Nat.le_of_ble_eq_true rfl) ?_
                  refine j_pop hX dX10_words_209 rfl ?_
                  refine j_iinc (L' := [(4, vI (w32 (v4 + 1))), (7, vI (x6)), (5, vL (x4)), (0, vR 56), (1, vI (v1)), (2, vI (v2)), (3, vI (v3))]) hX 6 dX10_words_210 hnl (by decide) rfl rfl ?_
                  refine j_goto hX (tgt := 58) dX10_words_213 (by decide) ?_
                  refine j_sub [3, 4, 5, 6, 0] rfl ?_
                  exact ih _ _ h
                · rw [if_pos hc] at h
                  refine j_iload hX 6 dX10_words_174 rfl ?_
                  cases h
                  exact j_iret hX hR dX10_words_176
          · rw [if_pos hc] at h
            refine j_iload hX 5 dX10_words_107 rfl ?_
            cases h
            exact j_iret hX hR dX10_words_109
theorem s_X10_words {g : G0} {B : Nat → Nat} {n : Nat} {E : Mem → Mem} {a1 : Int} {a2 : Int} {a3 : Int} {S : Mem} {r : Int} {S' : Mem} (hfl : g.2.2.2.2 = true) (hE : Lens E PM) (h : g_X10_words a1 a2 a3 S = some (r, S')) : Cn g B n yX10_words cX10_words 8 (some .int) 3 [vR 56, vI (a1), vI (a2), vI (a3)] (E S) (QcI g B n r (E S')) := by
  refine Cn.of (by decide +kernel) (Nat.le_of_ble_eq_true rfl) (fun X hg hnl hX hR => ?_)
  subst hg
  have hX : Ctx X cX10_words "TelegramFeelingsModel" 3 := hX
  unfold g_X10_words at h
  show JW X B n 0 0 0 [(0, vR 56), (1, vI (a1)), (2, vI (a2)), (3, vI (a3))] [] (E S) (QM X (QcI (gX X) B n r (E S')))
  refine j_iload_n hX 1 dX10_words_0 rfl rfl ?_
  obtain ⟨x1, h1, h⟩ := bs h
  refine j_callSI hX mwX10_isShelf msX10_isShelf wd1337 hyX10_isShelf (by omega) (by decide) ⟨Nat.zero_le _, Nat.zero_le _⟩ dX10_words_1 (s_X10_isShelf hfl h1) npX10_isShelf rfl (Nat.le_of_ble_eq_true rfl) ?_
  refine j_if_eq hX (tgt := 17) dX10_words_4 (by decide) (fun hc => ?_) (fun hc => ?_)
  · rw [if_pos hc] at h
    refine j_iconst hX dX10_words_17 (rc rfl) ?_
    cases h
    exact j_iret hX hR dX10_words_18
  · rw [if_neg hc] at h
    refine j_iload_n hX 3 dX10_words_7 rfl rfl ?_
    refine j_iconst hX dX10_words_8 (rc rfl) ?_
    refine j_bipush hX dX10_words_9 (rc rfl) (by decide) ?_
    refine j_callSI hX mwX10_in msX10_in wd1326 hyX10_in (by omega) (by decide) ⟨Nat.zero_le _, Nat.zero_le _⟩ dX10_words_11 (s_X10_in hfl rfl) npX10_in rfl (Nat.le_of_ble_eq_true rfl) ?_
    refine j_if_ne hX (tgt := 19) dX10_words_14 (by decide) (fun hc => ?_) (fun hc => ?_)
    · rw [if_neg hc] at h
      refine j_aload_n hX 0 dX10_words_19 rfl rfl ?_
      refine j_getS (k := 56) hX hfl cbX10 ty56 (by decide) rfl wd1196 rfl sb56_56 dX10_words_20 ?_
      refine j_iload_n hX 1 dX10_words_23 rfl rfl ?_
      obtain ⟨x2, hv, h⟩ := bs h
      refine j_iald hX hE ty93 pc93 hv dX10_words_24 ?_
      refine j_iconst hX dX10_words_25 (rc rfl) ?_
      refine j_icmp_eq hX (tgt := 43) dX10_words_26 (by decide) (fun hc => ?_) (fun hc => ?_)
      · rw [if_pos hc] at h
        refine j_aload_n hX 0 dX10_words_43 rfl rfl ?_
        refine j_getS (k := 56) hX hfl cbX10 ty56 (by decide) rfl wd1196 rfl sb56_56 dX10_words_44 ?_
        refine j_iload_n hX 1 dX10_words_47 rfl rfl ?_
        obtain ⟨x3, hv, h⟩ := bs h
        refine j_iald hX hE ty93 pc93 hv dX10_words_48 ?_
        refine j_iconst hX dX10_words_49 (rc rfl) ?_
        refine j_icmp_ne hX (tgt := 55) dX10_words_50 (by decide) (fun hc => ?_) (fun hc => ?_)
        · rw [if_neg hc] at h
          refine j_iconst hX dX10_words_55 (rc rfl) ?_
          refine j_istore (L' := [(4, vI (0)), (0, vR 56), (1, vI (a1)), (2, vI (a2)), (3, vI (a3))]) hX dX10_words_56 hnl (by decide) rfl ?_
          refine j_sub [1, 2, 3, 4, 0] rfl ?_
          refine sl_X10_words_58 hX hR hfl hnl hE  _ _ _ h
        · rw [if_pos hc] at h
          refine j_iconst hX dX10_words_53 (rc rfl) ?_
          cases h
          exact j_iret hX hR dX10_words_54
      · rw [if_neg hc] at h
        refine j_aload_n hX 0 dX10_words_29 rfl rfl ?_
        refine j_getS (k := 56) hX hfl cbX10 ty56 (by decide) rfl wd1196 rfl sb56_56 dX10_words_30 ?_
        refine j_iload_n hX 1 dX10_words_33 rfl rfl ?_
        obtain ⟨x15, hv, h⟩ := bs h
        refine j_iald hX hE ty93 pc93 hv dX10_words_34 ?_
        refine j_bipush hX dX10_words_35 (rc rfl) (by decide) ?_
        refine j_icmp_eq hX (tgt := 43) dX10_words_37 (by decide) (fun hc => ?_) (fun hc => ?_)
        · rw [if_pos hc] at h
          refine j_aload_n hX 0 dX10_words_43 rfl rfl ?_
          refine j_getS (k := 56) hX hfl cbX10 ty56 (by decide) rfl wd1196 rfl sb56_56 dX10_words_44 ?_
          refine j_iload_n hX 1 dX10_words_47 rfl rfl ?_
          obtain ⟨x16, hv, h⟩ := bs h
          refine j_iald hX hE ty93 pc93 hv dX10_words_48 ?_
          refine j_iconst hX dX10_words_49 (rc rfl) ?_
          refine j_icmp_ne hX (tgt := 55) dX10_words_50 (by decide) (fun hc => ?_) (fun hc => ?_)
          · rw [if_neg hc] at h
            refine j_iconst hX dX10_words_55 (rc rfl) ?_
            refine j_istore (L' := [(4, vI (0)), (0, vR 56), (1, vI (a1)), (2, vI (a2)), (3, vI (a3))]) hX dX10_words_56 hnl (by decide) rfl ?_
            refine j_sub [1, 2, 3, 4, 0] rfl ?_
            refine sl_X10_words_58 hX hR hfl hnl hE  _ _ _ h
          · rw [if_pos hc] at h
            refine j_iconst hX dX10_words_53 (rc rfl) ?_
            cases h
            exact j_iret hX hR dX10_words_54
        · rw [if_neg hc] at h
          refine j_bipush hX dX10_words_40 (rc rfl) (by decide) ?_
          cases h
          exact j_iret hX hR dX10_words_42
    · rw [if_pos hc] at h
      refine j_iconst hX dX10_words_17 (rc rfl) ?_
      cases h
      exact j_iret hX hR dX10_words_18
theorem s_X10_person {g : G0} {B : Nat → Nat} {n : Nat} {E : Mem → Mem} {a1 : Int} {S : Mem} {r : Int} {S' : Mem} (hfl : g.2.2.2.2 = true) (hE : Lens E PM) (h : g_X10_person a1 S = some (r, S')) : Cn g B n yX10_person cX10_person 2 (some .int) 2 [vR 56, vI (a1)] (E S) (QcI g B n r (E S')) := by
  refine Cn.of (by decide +kernel) (Nat.le_of_ble_eq_true rfl) (fun X hg hnl hX hR => ?_)
  subst hg
  have hX : Ctx X cX10_person "TelegramFeelingsModel" 2 := hX
  unfold g_X10_person at h
  show JW X B n 0 0 0 [(0, vR 56), (1, vI (a1))] [] (E S) (QM X (QcI (gX X) B n r (E S')))
  refine j_iload_n hX 1 dX10_person_0 rfl rfl ?_
  refine j_iconst hX dX10_person_1 (rc rfl) ?_
  refine j_sipush hX dX10_person_2 (rc rfl) (by decide) ?_
  refine j_callSI hX mwX10_in msX10_in wd1326 hyX10_in (by omega) (by decide) ⟨Nat.zero_le _, Nat.zero_le _⟩ dX10_person_5 (s_X10_in hfl rfl) npX10_in rfl (Nat.le_of_ble_eq_true rfl) ?_
  refine j_if_ne hX (tgt := 13) dX10_person_8 (by decide) (fun hc => ?_) (fun hc => ?_)
  · rw [if_neg hc] at h
    refine j_aload_n hX 0 dX10_person_13 rfl rfl ?_
    refine j_getI (k := 7) hX hE cbX10 ty56 pc56 (by decide) rfl wd1147 rfl dX10_person_14 ?_
    refine j_bipush hX dX10_person_17 (rc rfl) (by decide) ?_
    refine j_icmp_ne hX (tgt := 25) dX10_person_19 (by decide) (fun hc => ?_) (fun hc => ?_)
    · rw [if_neg hc] at h
      refine j_aload_n hX 0 dX10_person_25 rfl rfl ?_
      refine j_getS (k := 8) hX hfl cbX10 ty56 (by decide) rfl wd1148 rfl sb56_8 dX10_person_26 ?_
      refine j_aload_n hX 0 dX10_person_29 rfl rfl ?_
      refine j_getI (k := 7) hX hE cbX10 ty56 pc56 (by decide) rfl wd1147 rfl dX10_person_30 ?_
      refine j_iload_n hX 1 dX10_person_33 rfl rfl ?_
      obtain ⟨S1, hv, h⟩ := bs h
      refine j_iast hX hE ty62 pc62 hv dX10_person_34 ?_
      refine j_aload_n hX 0 dX10_person_35 rfl rfl ?_
      refine j_getS (k := 9) hX hfl cbX10 ty56 (by decide) rfl wd1149 rfl sb56_9 dX10_person_36 ?_
      refine j_aload_n hX 0 dX10_person_39 rfl rfl ?_
      refine j_getI (k := 7) hX hE cbX10 ty56 pc56 (by decide) rfl wd1147 rfl dX10_person_40 ?_
      refine j_iconst hX dX10_person_43 (rc rfl) ?_
      obtain ⟨S2, hv, h⟩ := bs h
      refine j_iast hX hE ty63 pc63 hv dX10_person_44 ?_
      refine j_aload_n hX 0 dX10_person_45 rfl rfl ?_
      refine j_dup hX dX10_person_46 rfl ?_
      refine j_getI (k := 7) hX hE cbX10 ty56 pc56 (by decide) rfl wd1147 rfl dX10_person_47 ?_
      refine j_iconst hX dX10_person_50 (rc rfl) ?_
      refine j_iadd hX dX10_person_51 ?_
      refine j_putI (k := 7) hX hE cbX10 ty56 pc56 (by decide) rfl wd1147 rfl (Or.inl rfl) rfl dX10_person_52 ?_
      obtain ⟨S3, hx, h⟩ := ap_s h
      rw [← hx]
      clear hx
      refine j_aload_n hX 0 dX10_person_55 rfl rfl ?_
      refine j_getI (k := 7) hX hE cbX10 ty56 pc56 (by decide) rfl wd1147 rfl dX10_person_56 ?_
      refine j_iconst hX dX10_person_59 (rc rfl) ?_
      refine j_isub hX dX10_person_60 ?_
      cases h
      exact j_iret hX hR dX10_person_61
    · rw [if_pos hc] at h
      refine j_bipush hX dX10_person_22 (rc rfl) (by decide) ?_
      cases h
      exact j_iret hX hR dX10_person_24
  · rw [if_pos hc] at h
    refine j_iconst hX dX10_person_11 (rc rfl) ?_
    cases h
    exact j_iret hX hR dX10_person_12
theorem s_X10_valueAt {g : G0} {B : Nat → Nat} {n : Nat} {E : Mem → Mem} {a1 : Int} {a2 : Int} {S : Mem} {r : Int} (hfl : g.2.2.2.2 = true) (hE : Lens E PM) (h : g_X10_valueAt a1 a2 S = some r) : Cn g B n yX10_valueAt cX10_valueAt 3 (some .int) 1 [vR 56, vI (a1), vI (a2)] (E S) (QcI g B n r (E S)) := by
  refine Cn.of (by decide +kernel) (Nat.le_of_ble_eq_true rfl) (fun X hg hnl hX hR => ?_)
  subst hg
  have hX : Ctx X cX10_valueAt "TelegramFeelingsModel" 1 := hX
  unfold g_X10_valueAt at h
  show JW X B n 0 0 0 [(0, vR 56), (1, vI (a1)), (2, vI (a2))] [] (E S) (QM X (QcI (gX X) B n r (E S)))
  refine j_iload_n hX 1 dX10_valueAt_0 rfl rfl ?_
  by_cases hc0 : a1 = 0
  · rw [if_pos hc0] at h
    refine j_tin hX (tgt := 44) dX10_valueAt_1 hc0 (by decide) (by decide) rfl (by decide) ?_
    refine j_aload_n hX 0 dX10_valueAt_44 rfl rfl ?_
    refine j_getS (k := 2) hX hfl cbX10 ty56 (by decide) rfl wd1142 rfl sb56_2 dX10_valueAt_45 ?_
    refine j_iload_n hX 2 dX10_valueAt_48 rfl rfl ?_
    obtain ⟨x1, hv, h⟩ := bs h
    refine j_iald hX hE ty57 pc57 hv dX10_valueAt_49 ?_
    cases h
    exact j_iret hX hR dX10_valueAt_50
  · rw [if_neg hc0] at h
    by_cases hc1 : a1 = 1
    · rw [if_pos hc1] at h
      refine j_tin hX (tgt := 51) dX10_valueAt_1 hc1 (by decide) (by decide) rfl (by decide) ?_
      refine j_aload_n hX 0 dX10_valueAt_51 rfl rfl ?_
      refine j_getS (k := 3) hX hfl cbX10 ty56 (by decide) rfl wd1143 rfl sb56_3 dX10_valueAt_52 ?_
      refine j_iload_n hX 2 dX10_valueAt_55 rfl rfl ?_
      obtain ⟨x2, hv, h⟩ := bs h
      refine j_iald hX hE ty58 pc58 hv dX10_valueAt_56 ?_
      cases h
      exact j_iret hX hR dX10_valueAt_57
    · rw [if_neg hc1] at h
      by_cases hc2 : a1 = 2
      · rw [if_pos hc2] at h
        refine j_tin hX (tgt := 58) dX10_valueAt_1 hc2 (by decide) (by decide) rfl (by decide) ?_
        refine j_aload_n hX 0 dX10_valueAt_58 rfl rfl ?_
        refine j_getS (k := 4) hX hfl cbX10 ty56 (by decide) rfl wd1144 rfl sb56_4 dX10_valueAt_59 ?_
        refine j_iload_n hX 2 dX10_valueAt_62 rfl rfl ?_
        obtain ⟨x3, hv, h⟩ := bs h
        refine j_iald hX hE ty59 pc59 hv dX10_valueAt_63 ?_
        cases h
        exact j_iret hX hR dX10_valueAt_64
      · rw [if_neg hc2] at h
        by_cases hc3 : a1 = 3
        · rw [if_pos hc3] at h
          refine j_tin hX (tgt := 65) dX10_valueAt_1 hc3 (by decide) (by decide) rfl (by decide) ?_
          refine j_aload_n hX 0 dX10_valueAt_65 rfl rfl ?_
          refine j_getS (k := 5) hX hfl cbX10 ty56 (by decide) rfl wd1145 rfl sb56_5 dX10_valueAt_66 ?_
          refine j_iload_n hX 2 dX10_valueAt_69 rfl rfl ?_
          obtain ⟨x4, hv, h⟩ := bs h
          refine j_iald hX hE ty60 pc60 hv dX10_valueAt_70 ?_
          cases h
          exact j_iret hX hR dX10_valueAt_71
        · rw [if_neg hc3] at h
          by_cases hc4 : a1 = 4
          · rw [if_pos hc4] at h
            refine j_tin hX (tgt := 72) dX10_valueAt_1 hc4 (by decide) (by decide) rfl (by decide) ?_
            refine j_aload_n hX 0 dX10_valueAt_72 rfl rfl ?_
            refine j_getS (k := 6) hX hfl cbX10 ty56 (by decide) rfl wd1146 rfl sb56_6 dX10_valueAt_73 ?_
            refine j_iload_n hX 2 dX10_valueAt_76 rfl rfl ?_
            obtain ⟨x5, hv, h⟩ := bs h
            refine j_iald hX hE ty61 pc61 hv dX10_valueAt_77 ?_
            cases h
            exact j_iret hX hR dX10_valueAt_78
          · rw [if_neg hc4] at h
            by_cases hc5 : a1 = 5
            · rw [if_pos hc5] at h
              refine j_tin hX (tgt := 79) dX10_valueAt_1 hc5 (by decide) (by decide) rfl (by decide) ?_
              refine j_aload_n hX 0 dX10_valueAt_79 rfl rfl ?_
              refine j_getS (k := 8) hX hfl cbX10 ty56 (by decide) rfl wd1148 rfl sb56_8 dX10_valueAt_80 ?_
              refine j_iload_n hX 2 dX10_valueAt_83 rfl rfl ?_
              obtain ⟨x6, hv, h⟩ := bs h
              refine j_iald hX hE ty62 pc62 hv dX10_valueAt_84 ?_
              cases h
              exact j_iret hX hR dX10_valueAt_85
            · rw [if_neg hc5] at h
              by_cases hc6 : a1 = 6
              · rw [if_pos hc6] at h
                refine j_tin hX (tgt := 86) dX10_valueAt_1 hc6 (by decide) (by decide) rfl (by decide) ?_
                refine j_aload_n hX 0 dX10_valueAt_86 rfl rfl ?_
                refine j_getS (k := 9) hX hfl cbX10 ty56 (by decide) rfl wd1149 rfl sb56_9 dX10_valueAt_87 ?_
                refine j_iload_n hX 2 dX10_valueAt_90 rfl rfl ?_
                obtain ⟨x7, hv, h⟩ := bs h
                refine j_iald hX hE ty63 pc63 hv dX10_valueAt_91 ?_
                cases h
                exact j_iret hX hR dX10_valueAt_92
              · rw [if_neg hc6] at h
                refine j_tout hX (tgt := 93) dX10_valueAt_1 (by omega) (by decide) ?_
                refine j_aload_n hX 0 dX10_valueAt_93 rfl rfl ?_
                refine j_getS (k := 10) hX hfl cbX10 ty56 (by decide) rfl wd1150 rfl sb56_10 dX10_valueAt_94 ?_
                refine j_iload_n hX 1 dX10_valueAt_97 rfl rfl ?_
                refine j_bipush hX dX10_valueAt_98 (rc rfl) (by decide) ?_
                refine j_isub hX dX10_valueAt_100 ?_
                obtain ⟨x8, hv, h⟩ := bs h
                refine j_iald hX hE ty64 pc64 hv dX10_valueAt_101 ?_
                cases h
                exact j_iret hX hR dX10_valueAt_102
theorem s_X10_lays {g : G0} {B : Nat → Nat} {n : Nat} {E : Mem → Mem} {a1 : Int} {a2 : Int} {a3 : Int} {S : Mem} {S' : Mem} (hfl : g.2.2.2.2 = true) (hE : Lens E PM) (h : g_X10_lays a1 a2 a3 S = some S') : Cn g B n yX10_lays cX10_lays 4 none 1 [vR 56, vI (a1), vI (a2), vI (a3)] (E S) (QcV g B n (E S')) := by
  refine Cn.of (by decide +kernel) (Nat.le_of_ble_eq_true rfl) (fun X hg hnl hX hR => ?_)
  subst hg
  have hX : Ctx X cX10_lays "TelegramFeelingsModel" 1 := hX
  unfold g_X10_lays at h
  show JW X B n 0 0 0 [(0, vR 56), (1, vI (a1)), (2, vI (a2)), (3, vI (a3))] [] (E S) (QM X (QcV (gX X) B n (E S')))
  refine j_iload_n hX 1 dX10_lays_0 rfl rfl ?_
  by_cases hc0 : a1 = 0
  · rw [if_pos hc0] at h
    refine j_tin hX (tgt := 44) dX10_lays_1 hc0 (by decide) (by decide) rfl (by decide) ?_
    refine j_aload_n hX 0 dX10_lays_44 rfl rfl ?_
    refine j_getS (k := 2) hX hfl cbX10 ty56 (by decide) rfl wd1142 rfl sb56_2 dX10_lays_45 ?_
    refine j_iload_n hX 2 dX10_lays_48 rfl rfl ?_
    refine j_iload_n hX 3 dX10_lays_49 rfl rfl ?_
    obtain ⟨S1, hv, h⟩ := bs h
    refine j_iast hX hE ty57 pc57 hv dX10_lays_50 ?_
    refine j_goto hX (tgt := 124) dX10_lays_51 (by decide) ?_
    cases h
    exact j_vret hX hR dX10_lays_124
  · rw [if_neg hc0] at h
    by_cases hc1 : a1 = 1
    · rw [if_pos hc1] at h
      refine j_tin hX (tgt := 54) dX10_lays_1 hc1 (by decide) (by decide) rfl (by decide) ?_
      refine j_aload_n hX 0 dX10_lays_54 rfl rfl ?_
      refine j_getS (k := 3) hX hfl cbX10 ty56 (by decide) rfl wd1143 rfl sb56_3 dX10_lays_55 ?_
      refine j_iload_n hX 2 dX10_lays_58 rfl rfl ?_
      refine j_iload_n hX 3 dX10_lays_59 rfl rfl ?_
      obtain ⟨S2, hv, h⟩ := bs h
      refine j_iast hX hE ty58 pc58 hv dX10_lays_60 ?_
      refine j_goto hX (tgt := 124) dX10_lays_61 (by decide) ?_
      cases h
      exact j_vret hX hR dX10_lays_124
    · rw [if_neg hc1] at h
      by_cases hc2 : a1 = 2
      · rw [if_pos hc2] at h
        refine j_tin hX (tgt := 64) dX10_lays_1 hc2 (by decide) (by decide) rfl (by decide) ?_
        refine j_aload_n hX 0 dX10_lays_64 rfl rfl ?_
        refine j_getS (k := 4) hX hfl cbX10 ty56 (by decide) rfl wd1144 rfl sb56_4 dX10_lays_65 ?_
        refine j_iload_n hX 2 dX10_lays_68 rfl rfl ?_
        refine j_iload_n hX 3 dX10_lays_69 rfl rfl ?_
        obtain ⟨S3, hv, h⟩ := bs h
        refine j_iast hX hE ty59 pc59 hv dX10_lays_70 ?_
        refine j_goto hX (tgt := 124) dX10_lays_71 (by decide) ?_
        cases h
        exact j_vret hX hR dX10_lays_124
      · rw [if_neg hc2] at h
        by_cases hc3 : a1 = 3
        · rw [if_pos hc3] at h
          refine j_tin hX (tgt := 74) dX10_lays_1 hc3 (by decide) (by decide) rfl (by decide) ?_
          refine j_aload_n hX 0 dX10_lays_74 rfl rfl ?_
          refine j_getS (k := 5) hX hfl cbX10 ty56 (by decide) rfl wd1145 rfl sb56_5 dX10_lays_75 ?_
          refine j_iload_n hX 2 dX10_lays_78 rfl rfl ?_
          refine j_iload_n hX 3 dX10_lays_79 rfl rfl ?_
          obtain ⟨S4, hv, h⟩ := bs h
          refine j_iast hX hE ty60 pc60 hv dX10_lays_80 ?_
          refine j_goto hX (tgt := 124) dX10_lays_81 (by decide) ?_
          cases h
          exact j_vret hX hR dX10_lays_124
        · rw [if_neg hc3] at h
          by_cases hc4 : a1 = 4
          · rw [if_pos hc4] at h
            refine j_tin hX (tgt := 84) dX10_lays_1 hc4 (by decide) (by decide) rfl (by decide) ?_
            refine j_aload_n hX 0 dX10_lays_84 rfl rfl ?_
            refine j_getS (k := 6) hX hfl cbX10 ty56 (by decide) rfl wd1146 rfl sb56_6 dX10_lays_85 ?_
            refine j_iload_n hX 2 dX10_lays_88 rfl rfl ?_
            refine j_iload_n hX 3 dX10_lays_89 rfl rfl ?_
            obtain ⟨S5, hv, h⟩ := bs h
            refine j_iast hX hE ty61 pc61 hv dX10_lays_90 ?_
            refine j_goto hX (tgt := 124) dX10_lays_91 (by decide) ?_
            cases h
            exact j_vret hX hR dX10_lays_124
          · rw [if_neg hc4] at h
            by_cases hc5 : a1 = 5
            · rw [if_pos hc5] at h
              refine j_tin hX (tgt := 94) dX10_lays_1 hc5 (by decide) (by decide) rfl (by decide) ?_
              refine j_aload_n hX 0 dX10_lays_94 rfl rfl ?_
              refine j_getS (k := 8) hX hfl cbX10 ty56 (by decide) rfl wd1148 rfl sb56_8 dX10_lays_95 ?_
              refine j_iload_n hX 2 dX10_lays_98 rfl rfl ?_
              refine j_iload_n hX 3 dX10_lays_99 rfl rfl ?_
              obtain ⟨S6, hv, h⟩ := bs h
              refine j_iast hX hE ty62 pc62 hv dX10_lays_100 ?_
              refine j_goto hX (tgt := 124) dX10_lays_101 (by decide) ?_
              cases h
              exact j_vret hX hR dX10_lays_124
            · rw [if_neg hc5] at h
              by_cases hc6 : a1 = 6
              · rw [if_pos hc6] at h
                refine j_tin hX (tgt := 104) dX10_lays_1 hc6 (by decide) (by decide) rfl (by decide) ?_
                refine j_aload_n hX 0 dX10_lays_104 rfl rfl ?_
                refine j_getS (k := 9) hX hfl cbX10 ty56 (by decide) rfl wd1149 rfl sb56_9 dX10_lays_105 ?_
                refine j_iload_n hX 2 dX10_lays_108 rfl rfl ?_
                refine j_iload_n hX 3 dX10_lays_109 rfl rfl ?_
                obtain ⟨S7, hv, h⟩ := bs h
                refine j_iast hX hE ty63 pc63 hv dX10_lays_110 ?_
                refine j_goto hX (tgt := 124) dX10_lays_111 (by decide) ?_
                cases h
                exact j_vret hX hR dX10_lays_124
              · rw [if_neg hc6] at h
                refine j_tout hX (tgt := 114) dX10_lays_1 (by omega) (by decide) ?_
                refine j_aload_n hX 0 dX10_lays_114 rfl rfl ?_
                refine j_getS (k := 10) hX hfl cbX10 ty56 (by decide) rfl wd1150 rfl sb56_10 dX10_lays_115 ?_
                refine j_iload_n hX 1 dX10_lays_118 rfl rfl ?_
                refine j_bipush hX dX10_lays_119 (rc rfl) (by decide) ?_
                refine j_isub hX dX10_lays_121 ?_
                refine j_iload_n hX 3 dX10_lays_122 rfl rfl ?_
                obtain ⟨S8, hv, h⟩ := bs h
                refine j_iast hX hE ty64 pc64 hv dX10_lays_123 ?_
                cases h
                exact j_vret hX hR dX10_lays_124
theorem sj_X10_changes_121 {X : K0} {B : Nat → Nat} {n : Nat} {E : Mem → Mem} {r : Int} {S' : Mem} (hX : Ctx X cX10_changes "TelegramFeelingsModel" 2) (hR : CR X (some .int)) (hfl : (gX X).2.2.2.2 = true) (hnl : X.2.2.2.2.2.2.2.2.2.2.2.2.2.2 = 6) (hE : Lens E PM)   {v1 : Int} {v2 : Int} {v3 : Int} {v4 : Int} {S : Mem} (h : g_X10_changes_J121 v1 v2 v3 v4 S = some (r, S')) : JW X B n 0 0 121 [(0, vR 56), (1, vI (v1)), (2, vI (v2)), (3, vI (v3)), (4, vI (v4))] [] (E S) (QM X (QcI (gX X) B n r (E S'))) := by
  unfold g_X10_changes_J121 at h
  refine j_aload_n hX 0 dX10_changes_121 rfl rfl ?_
  refine j_getS (k := 13) hX hfl cbX10 ty56 (by decide) rfl wd1153 rfl sb56_13 dX10_changes_122 ?_
  refine j_aload_n hX 0 dX10_changes_125 rfl rfl ?_
  refine j_getI (k := 11) hX hE cbX10 ty56 pc56 (by decide) rfl wd1151 rfl dX10_changes_126 ?_
  refine j_iload_n hX 1 dX10_changes_129 rfl rfl ?_
  obtain ⟨S3, hv, h⟩ := bs h
  refine j_iast hX hE ty65 pc65 hv dX10_changes_130 ?_
  refine j_aload_n hX 0 dX10_changes_131 rfl rfl ?_
  refine j_getS (k := 14) hX hfl cbX10 ty56 (by decide) rfl wd1154 rfl sb56_14 dX10_changes_132 ?_
  refine j_aload_n hX 0 dX10_changes_135 rfl rfl ?_
  refine j_getI (k := 11) hX hE cbX10 ty56 pc56 (by decide) rfl wd1151 rfl dX10_changes_136 ?_
  refine j_iload_n hX 2 dX10_changes_139 rfl rfl ?_
  obtain ⟨S4, hv, h⟩ := bs h
  refine j_iast hX hE ty66 pc66 hv dX10_changes_140 ?_
  refine j_aload_n hX 0 dX10_changes_141 rfl rfl ?_
  refine j_getS (k := 15) hX hfl cbX10 ty56 (by decide) rfl wd1155 rfl sb56_15 dX10_changes_142 ?_
  refine j_aload_n hX 0 dX10_changes_145 rfl rfl ?_
  refine j_getI (k := 11) hX hE cbX10 ty56 pc56 (by decide) rfl wd1151 rfl dX10_changes_146 ?_
  refine j_iload hX 4 dX10_changes_149 rfl ?_
  obtain ⟨S5, hv, h⟩ := bs h
  refine j_iast hX hE ty67 pc67 hv dX10_changes_151 ?_
  refine j_aload_n hX 0 dX10_changes_152 rfl rfl ?_
  refine j_getS (k := 16) hX hfl cbX10 ty56 (by decide) rfl wd1156 rfl sb56_16 dX10_changes_153 ?_
  refine j_aload_n hX 0 dX10_changes_156 rfl rfl ?_
  refine j_getI (k := 11) hX hE cbX10 ty56 pc56 (by decide) rfl wd1151 rfl dX10_changes_157 ?_
  refine j_iload_n hX 3 dX10_changes_160 rfl rfl ?_
  obtain ⟨S6, hv, h⟩ := bs h
  refine j_iast hX hE ty68 pc68 hv dX10_changes_161 ?_
  refine j_aload_n hX 0 dX10_changes_162 rfl rfl ?_
  refine j_dup hX dX10_changes_163 rfl ?_
  refine j_getI (k := 11) hX hE cbX10 ty56 pc56 (by decide) rfl wd1151 rfl dX10_changes_164 ?_
  refine j_iconst hX dX10_changes_167 (rc rfl) ?_
  refine j_iadd hX dX10_changes_168 ?_
  refine j_putI (k := 11) hX hE cbX10 ty56 pc56 (by decide) rfl wd1151 rfl (Or.inl rfl) rfl dX10_changes_169 ?_
  obtain ⟨S7, hx, h⟩ := ap_s h
  rw [← hx]
  clear hx
  refine j_aload_n hX 0 dX10_changes_172 rfl rfl ?_
  refine j_iload_n hX 1 dX10_changes_173 rfl rfl ?_
  refine j_iload_n hX 2 dX10_changes_174 rfl rfl ?_
  refine j_iload_n hX 3 dX10_changes_175 rfl rfl ?_
  obtain ⟨S8, h1, h⟩ := bs h
  refine j_callVV hX mwX10_lays miX10_lays wd1349 cbX10 ty56 hyX10_lays (by omega) (by decide) ⟨Nat.zero_le _, Nat.zero_le _⟩ dX10_changes_176 (s_X10_lays hfl hE h1) npX10_lays rfl (Nat.le_of_ble_eq_true rfl) ?_
  refine j_iload hX 4 dX10_changes_179 rfl ?_
  cases h
  exact j_iret hX hR dX10_changes_181
theorem sl_X10_changes_34 {X : K0} {B : Nat → Nat} {n : Nat} {E : Mem → Mem} {r : Int} {S' : Mem} (hX : Ctx X cX10_changes "TelegramFeelingsModel" 2) (hR : CR X (some .int)) (hfl : (gX X).2.2.2.2 = true) (hnl : X.2.2.2.2.2.2.2.2.2.2.2.2.2.2 = 6) (hE : Lens E PM) {k111 : Mem → Option (Int × Mem)} {v1 : Int} {v2 : Int} {v3 : Int} {v4 : Int} (K111 : ∀ (S : Mem), k111 S = some (r, S') → JW X B n 0 0 111 [(0, vR 56), (1, vI (v1)), (2, vI (v2)), (3, vI (v3)), (4, vI (v4))] [] (E S) (QM X (QcI (gX X) B n r (E S')))) : ∀ (fu : Nat) (v5 : Int) (S : Mem), g_X10_changes_L34 k111 v1 v2 v3 v4 fu v5 S = some (r, S') → JW X B n 0 0 34 [(0, vR 56), (1, vI (v1)), (2, vI (v2)), (3, vI (v3)), (4, vI (v4)), (5, vI (v5))] [] (E S) (QM X (QcI (gX X) B n r (E S'))) := by
  intro fu
  induction fu with
  | zero =>
    intro v5 S h
    rw [g_X10_changes_L34] at h
    cases h
  | succ fu ih =>
    intro v5 S h
    rw [g_X10_changes_L34] at h
    refine j_iload hX 5 dX10_changes_34 rfl ?_
    refine j_bipush hX dX10_changes_36 (rc rfl) (by decide) ?_
    refine j_icmp_ge hX (tgt := 111) dX10_changes_38 (by decide) (fun hc => ?_) (fun hc => ?_)
    · rw [if_pos hc] at h
      refine j_sub [0, 1, 2, 3, 4] rfl ?_
      exact K111 _ h
    · rw [if_neg hc] at h
      refine j_aload_n hX 0 dX10_changes_41 rfl rfl ?_
      refine j_getS (k := 13) hX hfl cbX10 ty56 (by decide) rfl wd1153 rfl sb56_13 dX10_changes_42 ?_
      refine j_iload hX 5 dX10_changes_45 rfl ?_
      refine j_iconst hX dX10_changes_47 (rc rfl) ?_
      refine j_isub hX dX10_changes_48 ?_
      refine j_aload_n hX 0 dX10_changes_49 rfl rfl ?_
      refine j_getS (k := 13) hX hfl cbX10 ty56 (by decide) rfl wd1153 rfl sb56_13 dX10_changes_50 ?_
      refine j_iload hX 5 dX10_changes_53 rfl ?_
      obtain ⟨x9, hv, h⟩ := bs h
      refine j_iald hX hE ty65 pc65 hv dX10_changes_55 ?_
      obtain ⟨S10, hv, h⟩ := bs h
      refine j_iast hX hE ty65 pc65 hv dX10_changes_56 ?_
      refine j_aload_n hX 0 dX10_changes_57 rfl rfl ?_
      refine j_getS (k := 14) hX hfl cbX10 ty56 (by decide) rfl wd1154 rfl sb56_14 dX10_changes_58 ?_
      refine j_iload hX 5 dX10_changes_61 rfl ?_
      refine j_iconst hX dX10_changes_63 (rc rfl) ?_
      refine j_isub hX dX10_changes_64 ?_
      refine j_aload_n hX 0 dX10_changes_65 rfl rfl ?_
      refine j_getS (k := 14) hX hfl cbX10 ty56 (by decide) rfl wd1154 rfl sb56_14 dX10_changes_66 ?_
      refine j_iload hX 5 dX10_changes_69 rfl ?_
      obtain ⟨x11, hv, h⟩ := bs h
      refine j_iald hX hE ty66 pc66 hv dX10_changes_71 ?_
      obtain ⟨S12, hv, h⟩ := bs h
      refine j_iast hX hE ty66 pc66 hv dX10_changes_72 ?_
      refine j_aload_n hX 0 dX10_changes_73 rfl rfl ?_
      refine j_getS (k := 15) hX hfl cbX10 ty56 (by decide) rfl wd1155 rfl sb56_15 dX10_changes_74 ?_
      refine j_iload hX 5 dX10_changes_77 rfl ?_
      refine j_iconst hX dX10_changes_79 (rc rfl) ?_
      refine j_isub hX dX10_changes_80 ?_
      refine j_aload_n hX 0 dX10_changes_81 rfl rfl ?_
      refine j_getS (k := 15) hX hfl cbX10 ty56 (by decide) rfl wd1155 rfl sb56_15 dX10_changes_82 ?_
      refine j_iload hX 5 dX10_changes_85 rfl ?_
      obtain ⟨x13, hv, h⟩ := bs h
      refine j_iald hX hE ty67 pc67 hv dX10_changes_87 ?_
      obtain ⟨S14, hv, h⟩ := bs h
      refine j_iast hX hE ty67 pc67 hv dX10_changes_88 ?_
      refine j_aload_n hX 0 dX10_changes_89 rfl rfl ?_
      refine j_getS (k := 16) hX hfl cbX10 ty56 (by decide) rfl wd1156 rfl sb56_16 dX10_changes_90 ?_
      refine j_iload hX 5 dX10_changes_93 rfl ?_
      refine j_iconst hX dX10_changes_95 (rc rfl) ?_
      refine j_isub hX dX10_changes_96 ?_
      refine j_aload_n hX 0 dX10_changes_97 rfl rfl ?_
      refine j_getS (k := 16) hX hfl cbX10 ty56 (by decide) rfl wd1156 rfl sb56_16 dX10_changes_98 ?_
      refine j_iload hX 5 dX10_changes_101 rfl ?_
      obtain ⟨x15, hv, h⟩ := bs h
      refine j_iald hX hE ty68 pc68 hv dX10_changes_103 ?_
      obtain ⟨S16, hv, h⟩ := bs h
      refine j_iast hX hE ty68 pc68 hv dX10_changes_104 ?_
      refine j_iinc (L' := [(5, vI (w32 (v5 + 1))), (0, vR 56), (1, vI (v1)), (2, vI (v2)), (3, vI (v3)), (4, vI (v4))]) hX 5 dX10_changes_105 hnl (by decide) rfl rfl ?_
      refine j_goto hX (tgt := 34) dX10_changes_108 (by decide) ?_
      refine j_sub [1, 2, 3, 4, 5, 0] rfl ?_
      exact ih _ _ h
theorem s_X10_changes {g : G0} {B : Nat → Nat} {n : Nat} {E : Mem → Mem} {a1 : Int} {a2 : Int} {a3 : Int} {S : Mem} {r : Int} {S' : Mem} (hfl : g.2.2.2.2 = true) (hE : Lens E PM) (h : g_X10_changes a1 a2 a3 S = some (r, S')) : Cn g B n yX10_changes cX10_changes 6 (some .int) 2 [vR 56, vI (a1), vI (a2), vI (a3)] (E S) (QcI g B n r (E S')) := by
  refine Cn.of (by decide +kernel) (Nat.le_of_ble_eq_true rfl) (fun X hg hnl hX hR => ?_)
  subst hg
  have hX : Ctx X cX10_changes "TelegramFeelingsModel" 2 := hX
  unfold g_X10_changes at h
  show JW X B n 0 0 0 [(0, vR 56), (1, vI (a1)), (2, vI (a2)), (3, vI (a3))] [] (E S) (QM X (QcI (gX X) B n r (E S')))
  refine j_aload_n hX 0 dX10_changes_0 rfl rfl ?_
  refine j_iload_n hX 1 dX10_changes_1 rfl rfl ?_
  refine j_iload_n hX 2 dX10_changes_2 rfl rfl ?_
  obtain ⟨x1, h1, h⟩ := bs h
  refine j_callVI hX mwX10_valueAt miX10_valueAt wd1381 cbX10 ty56 hyX10_valueAt (by omega) (by decide) ⟨Nat.zero_le _, Nat.zero_le _⟩ dX10_changes_3 (s_X10_valueAt hfl hE h1) npX10_valueAt rfl (Nat.le_of_ble_eq_true rfl) ?_
  refine j_istore (L' := [(4, vI (x1)), (0, vR 56), (1, vI (a1)), (2, vI (a2)), (3, vI (a3))]) hX dX10_changes_6 hnl (by decide) rfl ?_
  refine j_iload hX 0 dX10_changes_8 rfl ?_
  refine j_iload_n hX 4 dX10_changes_10 rfl rfl ?_
  refine j_icmp_ne hX (tgt := 17) dX10_changes_11 (by decide) (fun hc => ?_) (fun hc => ?_)
  · rw [if_neg hc] at h
    refine j_aload_n hX 1 dX10_changes_17 rfl rfl ?_
    refine j_iconst hX dX10_changes_18 (rc rfl) ?_
    refine j_putI (k := 12) hX hE cbX10 ty56 pc56 (by decide) rfl wd1152 rfl (Or.inl rfl) rfl dX10_changes_19 ?_
    obtain ⟨S2, hx, h⟩ := ap_s h
    rw [← hx]
    clear hx
    refine j_aload_n hX 1 dX10_changes_22 rfl rfl ?_
    refine j_getI (k := 11) hX hE cbX10 ty56 pc56 (by decide) rfl wd1151 rfl dX10_changes_23 ?_
    refine j_bipush hX dX10_changes_26 (rc rfl) (by decide) ?_
    refine j_icmp_ne hX (tgt := 121) dX10_changes_28 (by decide) (fun hc => ?_) (fun hc => ?_)
    · rw [if_neg hc] at h
      refine j_sub [1, 2, 3, 4, 0] rfl ?_
      exact sj_X10_changes_121 hX hR hfl hnl hE  h
    · rw [if_pos hc] at h
      refine j_iconst hX dX10_changes_31 (rc rfl) ?_
      refine j_istore (L' := [(5, vI (1)), (4, vI (x1)), (0, vR 56), (1, vI (a1)), (2, vI (a2)), (3, vI (a3))]) hX dX10_changes_32 hnl (by decide) rfl ?_
      refine j_sub [2, 3, 4, 5, 1, 0] rfl ?_
      refine sl_X10_changes_34 hX hR hfl hnl hE (fun S17 h => ?_) _ _ _ h
      refine j_aload_n hX 0 dX10_changes_111 rfl rfl ?_
      refine j_dup hX dX10_changes_112 rfl ?_
      refine j_getI (k := 11) hX hE cbX10 ty56 pc56 (by decide) rfl wd1151 rfl dX10_changes_113 ?_
      refine j_iconst hX dX10_changes_116 (rc rfl) ?_
      refine j_isub hX dX10_changes_117 ?_
      refine j_putI (k := 11) hX hE cbX10 ty56 pc56 (by decide) rfl wd1151 rfl (Or.inl rfl) rfl dX10_changes_118 ?_
      obtain ⟨S18, hx, h⟩ := ap_s h
      rw [← hx]
      clear hx
      refine j_sub [0, 1, 2, 3, 4] rfl ?_
      exact sj_X10_changes_121 hX hR hfl hnl hE  h
  · rw [if_pos hc] at h
    refine j_iload hX 0 dX10_changes_14 rfl ?_
    cases h
    exact j_iret hX hR dX10_changes_16
theorem s_X10_undo {g : G0} {B : Nat → Nat} {n : Nat} {E : Mem → Mem}  {S : Mem} {r : Int} {S' : Mem} (hfl : g.2.2.2.2 = true) (hE : Lens E PM) (h : g_X10_undo S = some (r, S')) : Cn g B n yX10_undo cX10_undo 1 (some .int) 2 [vR 56] (E S) (QcI g B n r (E S')) := by
  refine Cn.of (by decide +kernel) (Nat.le_of_ble_eq_true rfl) (fun X hg hnl hX hR => ?_)
  subst hg
  have hX : Ctx X cX10_undo "TelegramFeelingsModel" 2 := hX
  unfold g_X10_undo at h
  show JW X B n 0 0 0 [(0, vR 56)] [] (E S) (QM X (QcI (gX X) B n r (E S')))
  refine j_aload_n hX 0 dX10_undo_0 rfl rfl ?_
  refine j_getI (k := 11) hX hE cbX10 ty56 pc56 (by decide) rfl wd1151 rfl dX10_undo_1 ?_
  refine j_if_ne hX (tgt := 10) dX10_undo_4 (by decide) (fun hc => ?_) (fun hc => ?_)
  · rw [if_neg hc] at h
    refine j_aload_n hX 0 dX10_undo_10 rfl rfl ?_
    refine j_dup hX dX10_undo_11 rfl ?_
    refine j_getI (k := 11) hX hE cbX10 ty56 pc56 (by decide) rfl wd1151 rfl dX10_undo_12 ?_
    refine j_iconst hX dX10_undo_15 (rc rfl) ?_
    refine j_isub hX dX10_undo_16 ?_
    refine j_putI (k := 11) hX hE cbX10 ty56 pc56 (by decide) rfl wd1151 rfl (Or.inl rfl) rfl dX10_undo_17 ?_
    obtain ⟨S1, hx, h⟩ := ap_s h
    rw [← hx]
    clear hx
    refine j_aload_n hX 0 dX10_undo_20 rfl rfl ?_
    refine j_dup hX dX10_undo_21 rfl ?_
    refine j_getI (k := 12) hX hE cbX10 ty56 pc56 (by decide) rfl wd1152 rfl dX10_undo_22 ?_
    refine j_iconst hX dX10_undo_25 (rc rfl) ?_
    refine j_iadd hX dX10_undo_26 ?_
    refine j_putI (k := 12) hX hE cbX10 ty56 pc56 (by decide) rfl wd1152 rfl (Or.inl rfl) rfl dX10_undo_27 ?_
    obtain ⟨S2, hx, h⟩ := ap_s h
    rw [← hx]
    clear hx
    refine j_aload_n hX 0 dX10_undo_30 rfl rfl ?_
    refine j_aload_n hX 0 dX10_undo_31 rfl rfl ?_
    refine j_getS (k := 13) hX hfl cbX10 ty56 (by decide) rfl wd1153 rfl sb56_13 dX10_undo_32 ?_
    refine j_aload_n hX 0 dX10_undo_35 rfl rfl ?_
    refine j_getI (k := 11) hX hE cbX10 ty56 pc56 (by decide) rfl wd1151 rfl dX10_undo_36 ?_
    obtain ⟨x3, hv, h⟩ := bs h
    refine j_iald hX hE ty65 pc65 hv dX10_undo_39 ?_
    refine j_aload_n hX 0 dX10_undo_40 rfl rfl ?_
    refine j_getS (k := 14) hX hfl cbX10 ty56 (by decide) rfl wd1154 rfl sb56_14 dX10_undo_41 ?_
    refine j_aload_n hX 0 dX10_undo_44 rfl rfl ?_
    refine j_getI (k := 11) hX hE cbX10 ty56 pc56 (by decide) rfl wd1151 rfl dX10_undo_45 ?_
    obtain ⟨x4, hv, h⟩ := bs h
    refine j_iald hX hE ty66 pc66 hv dX10_undo_48 ?_
    refine j_aload_n hX 0 dX10_undo_49 rfl rfl ?_
    refine j_getS (k := 15) hX hfl cbX10 ty56 (by decide) rfl wd1155 rfl sb56_15 dX10_undo_50 ?_
    refine j_aload_n hX 0 dX10_undo_53 rfl rfl ?_
    refine j_getI (k := 11) hX hE cbX10 ty56 pc56 (by decide) rfl wd1151 rfl dX10_undo_54 ?_
    obtain ⟨x5, hv, h⟩ := bs h
    refine j_iald hX hE ty67 pc67 hv dX10_undo_57 ?_
    obtain ⟨S6, h1, h⟩ := bs h
    refine j_callVV hX mwX10_lays miX10_lays wd1349 cbX10 ty56 hyX10_lays (by omega) (by decide) ⟨Nat.zero_le _, Nat.zero_le _⟩ dX10_undo_58 (s_X10_lays hfl hE h1) npX10_lays rfl (Nat.le_of_ble_eq_true rfl) ?_
    refine j_aload_n hX 0 dX10_undo_61 rfl rfl ?_
    refine j_getI (k := 11) hX hE cbX10 ty56 pc56 (by decide) rfl wd1151 rfl dX10_undo_62 ?_
    cases h
    exact j_iret hX hR dX10_undo_65
  · rw [if_pos hc] at h
    refine j_bipush hX dX10_undo_7 (rc rfl) (by decide) ?_
    cases h
    exact j_iret hX hR dX10_undo_9
theorem s_X10_redo {g : G0} {B : Nat → Nat} {n : Nat} {E : Mem → Mem}  {S : Mem} {r : Int} {S' : Mem} (hfl : g.2.2.2.2 = true) (hE : Lens E PM) (h : g_X10_redo S = some (r, S')) : Cn g B n yX10_redo cX10_redo 1 (some .int) 2 [vR 56] (E S) (QcI g B n r (E S')) := by
  refine Cn.of (by decide +kernel) (Nat.le_of_ble_eq_true rfl) (fun X hg hnl hX hR => ?_)
  subst hg
  have hX : Ctx X cX10_redo "TelegramFeelingsModel" 2 := hX
  unfold g_X10_redo at h
  show JW X B n 0 0 0 [(0, vR 56)] [] (E S) (QM X (QcI (gX X) B n r (E S')))
  refine j_aload_n hX 0 dX10_redo_0 rfl rfl ?_
  refine j_getI (k := 12) hX hE cbX10 ty56 pc56 (by decide) rfl wd1152 rfl dX10_redo_1 ?_
  refine j_if_ne hX (tgt := 10) dX10_redo_4 (by decide) (fun hc => ?_) (fun hc => ?_)
  · rw [if_neg hc] at h
    refine j_aload_n hX 0 dX10_redo_10 rfl rfl ?_
    refine j_aload_n hX 0 dX10_redo_11 rfl rfl ?_
    refine j_getS (k := 13) hX hfl cbX10 ty56 (by decide) rfl wd1153 rfl sb56_13 dX10_redo_12 ?_
    refine j_aload_n hX 0 dX10_redo_15 rfl rfl ?_
    refine j_getI (k := 11) hX hE cbX10 ty56 pc56 (by decide) rfl wd1151 rfl dX10_redo_16 ?_
    obtain ⟨x1, hv, h⟩ := bs h
    refine j_iald hX hE ty65 pc65 hv dX10_redo_19 ?_
    refine j_aload_n hX 0 dX10_redo_20 rfl rfl ?_
    refine j_getS (k := 14) hX hfl cbX10 ty56 (by decide) rfl wd1154 rfl sb56_14 dX10_redo_21 ?_
    refine j_aload_n hX 0 dX10_redo_24 rfl rfl ?_
    refine j_getI (k := 11) hX hE cbX10 ty56 pc56 (by decide) rfl wd1151 rfl dX10_redo_25 ?_
    obtain ⟨x2, hv, h⟩ := bs h
    refine j_iald hX hE ty66 pc66 hv dX10_redo_28 ?_
    refine j_aload_n hX 0 dX10_redo_29 rfl rfl ?_
    refine j_getS (k := 16) hX hfl cbX10 ty56 (by decide) rfl wd1156 rfl sb56_16 dX10_redo_30 ?_
    refine j_aload_n hX 0 dX10_redo_33 rfl rfl ?_
    refine j_getI (k := 11) hX hE cbX10 ty56 pc56 (by decide) rfl wd1151 rfl dX10_redo_34 ?_
    obtain ⟨x3, hv, h⟩ := bs h
    refine j_iald hX hE ty68 pc68 hv dX10_redo_37 ?_
    obtain ⟨S4, h1, h⟩ := bs h
    refine j_callVV hX mwX10_lays miX10_lays wd1349 cbX10 ty56 hyX10_lays (by omega) (by decide) ⟨Nat.zero_le _, Nat.zero_le _⟩ dX10_redo_38 (s_X10_lays hfl hE h1) npX10_lays rfl (Nat.le_of_ble_eq_true rfl) ?_
    refine j_aload_n hX 0 dX10_redo_41 rfl rfl ?_
    refine j_dup hX dX10_redo_42 rfl ?_
    refine j_getI (k := 11) hX hE cbX10 ty56 pc56 (by decide) rfl wd1151 rfl dX10_redo_43 ?_
    refine j_iconst hX dX10_redo_46 (rc rfl) ?_
    refine j_iadd hX dX10_redo_47 ?_
    refine j_putI (k := 11) hX hE cbX10 ty56 pc56 (by decide) rfl wd1151 rfl (Or.inl rfl) rfl dX10_redo_48 ?_
    obtain ⟨S5, hx, h⟩ := ap_s h
    rw [← hx]
    clear hx
    refine j_aload_n hX 0 dX10_redo_51 rfl rfl ?_
    refine j_dup hX dX10_redo_52 rfl ?_
    refine j_getI (k := 12) hX hE cbX10 ty56 pc56 (by decide) rfl wd1152 rfl dX10_redo_53 ?_
    refine j_iconst hX dX10_redo_56 (rc rfl) ?_
    refine j_isub hX dX10_redo_57 ?_
    refine j_putI (k := 12) hX hE cbX10 ty56 pc56 (by decide) rfl wd1152 rfl (Or.inl rfl) rfl dX10_redo_58 ?_
    obtain ⟨S6, hx, h⟩ := ap_s h
    rw [← hx]
    clear hx
    refine j_aload_n hX 0 dX10_redo_61 rfl rfl ?_
    refine j_getI (k := 12) hX hE cbX10 ty56 pc56 (by decide) rfl wd1152 rfl dX10_redo_62 ?_
    cases h
    exact j_iret hX hR dX10_redo_65
  · rw [if_pos hc] at h
    refine j_bipush hX dX10_redo_7 (rc rfl) (by decide) ?_
    cases h
    exact j_iret hX hR dX10_redo_9
theorem s_X10_isOne {g : G0} {B : Nat → Nat} {n : Nat} {E : Mem → Mem} {a1 : Int} {a2 : Int} {S : Mem} {r : Int} (hfl : g.2.2.2.2 = true) (hE : Lens E PM) (h : g_X10_isOne a1 a2 S = some r) : Cn g B n yX10_isOne cX10_isOne 3 (some .boolean) 3 [vR 56, vI (a1), vI (a2)] (E S) (QcI g B n r (E S)) := by
  refine Cn.of (by decide +kernel) (Nat.le_of_ble_eq_true rfl) (fun X hg hnl hX hR => ?_)
  subst hg
  have hX : Ctx X cX10_isOne "TelegramFeelingsModel" 3 := hX
  unfold g_X10_isOne at h
  show JW X B n 0 0 0 [(0, vR 56), (1, vI (a1)), (2, vI (a2))] [] (E S) (QM X (QcI (gX X) B n r (E S)))
  refine j_iload_n hX 2 dX10_isOne_0 rfl rfl ?_
  refine j_iconst hX dX10_isOne_1 (rc rfl) ?_
  refine j_iconst hX dX10_isOne_2 (rc rfl) ?_
  refine j_callSI hX mwX10_in msX10_in wd1326 hyX10_in (by omega) (by decide) ⟨Nat.zero_le _, Nat.zero_le _⟩ dX10_isOne_3 (s_X10_in hfl rfl) npX10_in rfl (Nat.le_of_ble_eq_true rfl) ?_
  refine j_if_eq hX (tgt := 17) dX10_isOne_6 (by decide) (fun hc => ?_) (fun hc => ?_)
  · rw [if_pos hc] at h
    refine j_iload_n hX 2 dX10_isOne_17 rfl rfl ?_
    refine j_iconst hX dX10_isOne_18 (rc rfl) ?_
    refine j_bipush hX dX10_isOne_19 (rc rfl) (by decide) ?_
    refine j_callSI hX mwX10_in msX10_in wd1326 hyX10_in (by omega) (by decide) ⟨Nat.zero_le _, Nat.zero_le _⟩ dX10_isOne_21 (s_X10_in hfl rfl) npX10_in rfl (Nat.le_of_ble_eq_true rfl) ?_
    refine j_if_eq hX (tgt := 35) dX10_isOne_24 (by decide) (fun hc => ?_) (fun hc => ?_)
    · rw [if_pos hc] at h
      refine j_iload_n hX 2 dX10_isOne_35 rfl rfl ?_
      refine j_bipush hX dX10_isOne_36 (rc rfl) (by decide) ?_
      refine j_bipush hX dX10_isOne_38 (rc rfl) (by decide) ?_
      refine j_callSI hX mwX10_in msX10_in wd1326 hyX10_in (by omega) (by decide) ⟨Nat.zero_le _, Nat.zero_le _⟩ dX10_isOne_40 (s_X10_in hfl rfl) npX10_in rfl (Nat.le_of_ble_eq_true rfl) ?_
      refine j_if_eq hX (tgt := 54) dX10_isOne_43 (by decide) (fun hc => ?_) (fun hc => ?_)
      · rw [if_pos hc] at h
        refine j_iconst hX dX10_isOne_54 (rc rfl) ?_
        cases h
        exact j_zret hX hR (Or.inl rfl) dX10_isOne_55
      · rw [if_neg hc] at h
        refine j_iload_n hX 1 dX10_isOne_46 rfl rfl ?_
        refine j_if_ne hX (tgt := 54) dX10_isOne_47 (by decide) (fun hc => ?_) (fun hc => ?_)
        · rw [if_neg hc] at h
          refine j_iconst hX dX10_isOne_54 (rc rfl) ?_
          cases h
          exact j_zret hX hR (Or.inl rfl) dX10_isOne_55
        · rw [if_pos hc] at h
          refine j_iconst hX dX10_isOne_50 (rc rfl) ?_
          refine j_goto hX (tgt := 55) dX10_isOne_51 (by decide) ?_
          cases h
          exact j_zret hX hR (Or.inr rfl) dX10_isOne_55
    · rw [if_neg hc] at h
      refine j_aload_n hX 0 dX10_isOne_27 rfl rfl ?_
      refine j_iload_n hX 1 dX10_isOne_28 rfl rfl ?_
      obtain ⟨x1, h1, h⟩ := bs h
      refine j_callVI hX mwX10_isPerson miX10_isPerson wd1369 cbX10 ty56 hyX10_isPerson (by omega) (by decide) ⟨Nat.zero_le _, Nat.zero_le _⟩ dX10_isOne_29 (s_X10_isPerson hfl hE h1) npX10_isPerson rfl (Nat.le_of_ble_eq_true rfl) ?_
      refine j_goto hX (tgt := 55) dX10_isOne_32 (by decide) ?_
      obtain ⟨hz, h⟩ := chk_s h
      cases h
      exact j_zret hX hR hz dX10_isOne_55
  · rw [if_neg hc] at h
    refine j_aload_n hX 0 dX10_isOne_9 rfl rfl ?_
    refine j_iload_n hX 1 dX10_isOne_10 rfl rfl ?_
    obtain ⟨x2, h1, h⟩ := bs h
    refine j_callVI hX mwX10_isWord miX10_isWord wd1365 cbX10 ty56 hyX10_isWord (by omega) (by decide) ⟨Nat.zero_le _, Nat.zero_le _⟩ dX10_isOne_11 (s_X10_isWord hfl hE h1) npX10_isWord rfl (Nat.le_of_ble_eq_true rfl) ?_
    refine j_goto hX (tgt := 55) dX10_isOne_14 (by decide) ?_
    obtain ⟨hz, h⟩ := chk_s h
    cases h
    exact j_zret hX hR hz dX10_isOne_55
theorem s_X10_mayHave {g : G0} {B : Nat → Nat} {n : Nat} {E : Mem → Mem} {a1 : Int} {a2 : Int} {S : Mem} {r : Int} (hfl : g.2.2.2.2 = true) (hE : Lens E PM) (h : g_X10_mayHave a1 a2 S = some r) : Cn g B n yX10_mayHave cX10_mayHave 3 (some .boolean) 3 [vR 56, vI (a1), vI (a2)] (E S) (QcI g B n r (E S)) := by
  refine Cn.of (by decide +kernel) (Nat.le_of_ble_eq_true rfl) (fun X hg hnl hX hR => ?_)
  subst hg
  have hX : Ctx X cX10_mayHave "TelegramFeelingsModel" 3 := hX
  unfold g_X10_mayHave at h
  show JW X B n 0 0 0 [(0, vR 56), (1, vI (a1)), (2, vI (a2))] [] (E S) (QM X (QcI (gX X) B n r (E S)))
  refine j_iload_n hX 1 dX10_mayHave_0 rfl rfl ?_
  by_cases hc0 : a1 = 0
  · rw [if_pos hc0] at h
    refine j_tin hX (tgt := 52) dX10_mayHave_1 hc0 (by decide) (by decide) rfl (by decide) ?_
    refine j_iload_n hX 2 dX10_mayHave_52 rfl rfl ?_
    refine j_iconst hX dX10_mayHave_53 (rc rfl) ?_
    refine j_bipush hX dX10_mayHave_54 (rc rfl) (by decide) ?_
    refine j_callSI hX mwX10_in msX10_in wd1326 hyX10_in (by omega) (by decide) ⟨Nat.zero_le _, Nat.zero_le _⟩ dX10_mayHave_56 (s_X10_in hfl rfl) npX10_in rfl (Nat.le_of_ble_eq_true rfl) ?_
    obtain ⟨hz, h⟩ := chk_s h
    cases h
    exact j_zret hX hR hz dX10_mayHave_59
  · rw [if_neg hc0] at h
    by_cases hc1 : a1 = 1
    · rw [if_pos hc1] at h
      refine j_tin hX (tgt := 60) dX10_mayHave_1 hc1 (by decide) (by decide) rfl (by decide) ?_
      refine j_iload_n hX 2 dX10_mayHave_60 rfl rfl ?_
      refine j_iconst hX dX10_mayHave_61 (rc rfl) ?_
      refine j_bipush hX dX10_mayHave_62 (rc rfl) (by decide) ?_
      refine j_callSI hX mwX10_in msX10_in wd1326 hyX10_in (by omega) (by decide) ⟨Nat.zero_le _, Nat.zero_le _⟩ dX10_mayHave_64 (s_X10_in hfl rfl) npX10_in rfl (Nat.le_of_ble_eq_true rfl) ?_
      obtain ⟨hz, h⟩ := chk_s h
      cases h
      exact j_zret hX hR hz dX10_mayHave_67
    · rw [if_neg hc1] at h
      by_cases hc2 : a1 = 2
      · rw [if_pos hc2] at h
        refine j_tin hX (tgt := 68) dX10_mayHave_1 hc2 (by decide) (by decide) rfl (by decide) ?_
        refine j_iload_n hX 2 dX10_mayHave_68 rfl rfl ?_
        refine j_iconst hX dX10_mayHave_69 (rc rfl) ?_
        refine j_iconst hX dX10_mayHave_70 (rc rfl) ?_
        refine j_callSI hX mwX10_in msX10_in wd1326 hyX10_in (by omega) (by decide) ⟨Nat.zero_le _, Nat.zero_le _⟩ dX10_mayHave_71 (s_X10_in hfl rfl) npX10_in rfl (Nat.le_of_ble_eq_true rfl) ?_
        obtain ⟨hz, h⟩ := chk_s h
        cases h
        exact j_zret hX hR hz dX10_mayHave_74
      · rw [if_neg hc2] at h
        by_cases hc3 : a1 = 3
        · rw [if_pos hc3] at h
          refine j_tin hX (tgt := 75) dX10_mayHave_1 hc3 (by decide) (by decide) rfl (by decide) ?_
          refine j_iload_n hX 2 dX10_mayHave_75 rfl rfl ?_
          refine j_iconst hX dX10_mayHave_76 (rc rfl) ?_
          refine j_bipush hX dX10_mayHave_77 (rc rfl) (by decide) ?_
          refine j_callSI hX mwX10_in msX10_in wd1326 hyX10_in (by omega) (by decide) ⟨Nat.zero_le _, Nat.zero_le _⟩ dX10_mayHave_79 (s_X10_in hfl rfl) npX10_in rfl (Nat.le_of_ble_eq_true rfl) ?_
          obtain ⟨hz, h⟩ := chk_s h
          cases h
          exact j_zret hX hR hz dX10_mayHave_82
        · rw [if_neg hc3] at h
          by_cases hc4 : a1 = 4
          · rw [if_pos hc4] at h
            refine j_tin hX (tgt := 83) dX10_mayHave_1 hc4 (by decide) (by decide) rfl (by decide) ?_
            refine j_aload_n hX 0 dX10_mayHave_83 rfl rfl ?_
            refine j_iload_n hX 2 dX10_mayHave_84 rfl rfl ?_
            obtain ⟨x1, h1, h⟩ := bs h
            refine j_callVI hX mwX10_isWord miX10_isWord wd1365 cbX10 ty56 hyX10_isWord (by omega) (by decide) ⟨Nat.zero_le _, Nat.zero_le _⟩ dX10_mayHave_85 (s_X10_isWord hfl hE h1) npX10_isWord rfl (Nat.le_of_ble_eq_true rfl) ?_
            obtain ⟨hz, h⟩ := chk_s h
            cases h
            exact j_zret hX hR hz dX10_mayHave_88
          · rw [if_neg hc4] at h
            by_cases hc5 : a1 = 5
            · rw [if_pos hc5] at h
              refine j_tin hX (tgt := 89) dX10_mayHave_1 hc5 (by decide) (by decide) rfl (by decide) ?_
              refine j_iload_n hX 2 dX10_mayHave_89 rfl rfl ?_
              refine j_iconst hX dX10_mayHave_90 (rc rfl) ?_
              refine j_sipush hX dX10_mayHave_91 (rc rfl) (by decide) ?_
              refine j_callSI hX mwX10_in msX10_in wd1326 hyX10_in (by omega) (by decide) ⟨Nat.zero_le _, Nat.zero_le _⟩ dX10_mayHave_94 (s_X10_in hfl rfl) npX10_in rfl (Nat.le_of_ble_eq_true rfl) ?_
              obtain ⟨hz, h⟩ := chk_s h
              cases h
              exact j_zret hX hR hz dX10_mayHave_97
            · rw [if_neg hc5] at h
              by_cases hc6 : a1 = 6
              · rw [if_pos hc6] at h
                refine j_tin hX (tgt := 98) dX10_mayHave_1 hc6 (by decide) (by decide) rfl (by decide) ?_
                refine j_iload_n hX 2 dX10_mayHave_98 rfl rfl ?_
                refine j_iconst hX dX10_mayHave_99 (rc rfl) ?_
                refine j_bipush hX dX10_mayHave_100 (rc rfl) (by decide) ?_
                refine j_callSI hX mwX10_in msX10_in wd1326 hyX10_in (by omega) (by decide) ⟨Nat.zero_le _, Nat.zero_le _⟩ dX10_mayHave_102 (s_X10_in hfl rfl) npX10_in rfl (Nat.le_of_ble_eq_true rfl) ?_
                obtain ⟨hz, h⟩ := chk_s h
                cases h
                exact j_zret hX hR hz dX10_mayHave_105
              · rw [if_neg hc6] at h
                by_cases hc7 : a1 = 7
                · rw [if_pos hc7] at h
                  refine j_tin hX (tgt := 106) dX10_mayHave_1 hc7 (by decide) (by decide) rfl (by decide) ?_
                  refine j_iload_n hX 2 dX10_mayHave_106 rfl rfl ?_
                  refine j_iconst hX dX10_mayHave_107 (rc rfl) ?_
                  refine j_iconst hX dX10_mayHave_108 (rc rfl) ?_
                  refine j_callSI hX mwX10_in msX10_in wd1326 hyX10_in (by omega) (by decide) ⟨Nat.zero_le _, Nat.zero_le _⟩ dX10_mayHave_109 (s_X10_in hfl rfl) npX10_in rfl (Nat.le_of_ble_eq_true rfl) ?_
                  obtain ⟨hz, h⟩ := chk_s h
                  cases h
                  exact j_zret hX hR hz dX10_mayHave_112
                · rw [if_neg hc7] at h
                  by_cases hc8 : a1 = 8
                  · rw [if_pos hc8] at h
                    refine j_tin hX (tgt := 113) dX10_mayHave_1 hc8 (by decide) (by decide) rfl (by decide) ?_
                    refine j_iload_n hX 2 dX10_mayHave_113 rfl rfl ?_
                    refine j_iconst hX dX10_mayHave_114 (rc rfl) ?_
                    refine j_bipush hX dX10_mayHave_115 (rc rfl) (by decide) ?_
                    refine j_callSI hX mwX10_in msX10_in wd1326 hyX10_in (by omega) (by decide) ⟨Nat.zero_le _, Nat.zero_le _⟩ dX10_mayHave_117 (s_X10_in hfl rfl) npX10_in rfl (Nat.le_of_ble_eq_true rfl) ?_
                    obtain ⟨hz, h⟩ := chk_s h
                    cases h
                    exact j_zret hX hR hz dX10_mayHave_120
                  · rw [if_neg hc8] at h
                    refine j_tout hX (tgt := 121) dX10_mayHave_1 (by omega) (by decide) ?_
                    refine j_iload_n hX 2 dX10_mayHave_121 rfl rfl ?_
                    refine j_iconst hX dX10_mayHave_122 (rc rfl) ?_
                    refine j_bipush hX dX10_mayHave_123 (rc rfl) (by decide) ?_
                    refine j_callSI hX mwX10_in msX10_in wd1326 hyX10_in (by omega) (by decide) ⟨Nat.zero_le _, Nat.zero_le _⟩ dX10_mayHave_125 (s_X10_in hfl rfl) npX10_in rfl (Nat.le_of_ble_eq_true rfl) ?_
                    obtain ⟨hz, h⟩ := chk_s h
                    cases h
                    exact j_zret hX hR hz dX10_mayHave_128
theorem s_X10_mend {g : G0} {B : Nat → Nat} {n : Nat} {E : Mem → Mem} {a1 : Int} {a2 : Int} {a3 : Int} {S : Mem} {r : Int} {S' : Mem} (hfl : g.2.2.2.2 = true) (hE : Lens E PM) (h : g_X10_mend a1 a2 a3 S = some (r, S')) : Cn g B n yX10_mend cX10_mend 4 (some .int) 4 [vR 56, vI (a1), vI (a2), vI (a3)] (E S) (QcI g B n r (E S')) := by
  refine Cn.of (by decide +kernel) (Nat.le_of_ble_eq_true rfl) (fun X hg hnl hX hR => ?_)
  subst hg
  have hX : Ctx X cX10_mend "TelegramFeelingsModel" 4 := hX
  unfold g_X10_mend at h
  show JW X B n 0 0 0 [(0, vR 56), (1, vI (a1)), (2, vI (a2)), (3, vI (a3))] [] (E S) (QM X (QcI (gX X) B n r (E S')))
  refine j_aload_n hX 0 dX10_mend_0 rfl rfl ?_
  refine j_iload_n hX 1 dX10_mend_1 rfl rfl ?_
  refine j_iload_n hX 2 dX10_mend_2 rfl rfl ?_
  obtain ⟨x1, h1, h⟩ := bs h
  refine j_callVI hX mwX10_isOne miX10_isOne wd1361 cbX10 ty56 hyX10_isOne (by omega) (by decide) ⟨Nat.zero_le _, Nat.zero_le _⟩ dX10_mend_3 (s_X10_isOne hfl hE h1) npX10_isOne rfl (Nat.le_of_ble_eq_true rfl) ?_
  refine j_if_eq hX (tgt := 28) dX10_mend_6 (by decide) (fun hc => ?_) (fun hc => ?_)
  · rw [if_pos hc] at h
    refine j_iconst hX dX10_mend_28 (rc rfl) ?_
    cases h
    exact j_iret hX hR dX10_mend_29
  · rw [if_neg hc] at h
    refine j_aload_n hX 0 dX10_mend_9 rfl rfl ?_
    refine j_iload_n hX 2 dX10_mend_10 rfl rfl ?_
    refine j_iload_n hX 3 dX10_mend_11 rfl rfl ?_
    obtain ⟨x2, h1, h⟩ := bs h
    refine j_callVI hX mwX10_mayHave miX10_mayHave wd1373 cbX10 ty56 hyX10_mayHave (by omega) (by decide) ⟨Nat.zero_le _, Nat.zero_le _⟩ dX10_mend_12 (s_X10_mayHave hfl hE h1) npX10_mayHave rfl (Nat.le_of_ble_eq_true rfl) ?_
    refine j_if_eq hX (tgt := 28) dX10_mend_15 (by decide) (fun hc => ?_) (fun hc => ?_)
    · rw [if_pos hc] at h
      refine j_iconst hX dX10_mend_28 (rc rfl) ?_
      cases h
      exact j_iret hX hR dX10_mend_29
    · rw [if_neg hc] at h
      refine j_aload_n hX 0 dX10_mend_18 rfl rfl ?_
      refine j_iload_n hX 2 dX10_mend_19 rfl rfl ?_
      refine j_iload_n hX 1 dX10_mend_20 rfl rfl ?_
      refine j_iload_n hX 3 dX10_mend_21 rfl rfl ?_
      obtain ⟨x4, S3, h1, h⟩ := bd2_s h
      refine j_callVI hX mwX10_changes miX10_changes wd1377 cbX10 ty56 hyX10_changes (by omega) (by decide) ⟨Nat.zero_le _, Nat.zero_le _⟩ dX10_mend_22 (s_X10_changes hfl hE h1) npX10_changes rfl (Nat.le_of_ble_eq_true rfl) ?_
      refine j_goto hX (tgt := 29) dX10_mend_25 (by decide) ?_
      cases h
      exact j_iret hX hR dX10_mend_29
theorem s_X10_of {g : G0} {B : Nat → Nat} {n : Nat} {E : Mem → Mem} {a1 : Int} {a2 : Int} {S : Mem} {r : Int} (hfl : g.2.2.2.2 = true) (hE : Lens E PM) (h : g_X10_of a1 a2 S = some r) : Cn g B n yX10_of cX10_of 3 (some .int) 4 [vR 56, vI (a1), vI (a2)] (E S) (QcI g B n r (E S)) := by
  refine Cn.of (by decide +kernel) (Nat.le_of_ble_eq_true rfl) (fun X hg hnl hX hR => ?_)
  subst hg
  have hX : Ctx X cX10_of "TelegramFeelingsModel" 4 := hX
  unfold g_X10_of at h
  show JW X B n 0 0 0 [(0, vR 56), (1, vI (a1)), (2, vI (a2))] [] (E S) (QM X (QcI (gX X) B n r (E S)))
  refine j_aload_n hX 0 dX10_of_0 rfl rfl ?_
  refine j_iload_n hX 1 dX10_of_1 rfl rfl ?_
  refine j_iload_n hX 2 dX10_of_2 rfl rfl ?_
  obtain ⟨x1, h1, h⟩ := bs h
  refine j_callVI hX mwX10_isOne miX10_isOne wd1361 cbX10 ty56 hyX10_isOne (by omega) (by decide) ⟨Nat.zero_le _, Nat.zero_le _⟩ dX10_of_3 (s_X10_isOne hfl hE h1) npX10_isOne rfl (Nat.le_of_ble_eq_true rfl) ?_
  refine j_if_eq hX (tgt := 18) dX10_of_6 (by decide) (fun hc => ?_) (fun hc => ?_)
  · rw [if_pos hc] at h
    refine j_iconst hX dX10_of_18 (rc rfl) ?_
    cases h
    exact j_iret hX hR dX10_of_19
  · rw [if_neg hc] at h
    refine j_aload_n hX 0 dX10_of_9 rfl rfl ?_
    refine j_iload_n hX 2 dX10_of_10 rfl rfl ?_
    refine j_iload_n hX 1 dX10_of_11 rfl rfl ?_
    obtain ⟨x2, h1, h⟩ := bs h
    refine j_callVI hX mwX10_valueAt miX10_valueAt wd1381 cbX10 ty56 hyX10_valueAt (by omega) (by decide) ⟨Nat.zero_le _, Nat.zero_le _⟩ dX10_of_12 (s_X10_valueAt hfl hE h1) npX10_valueAt rfl (Nat.le_of_ble_eq_true rfl) ?_
    refine j_goto hX (tgt := 19) dX10_of_15 (by decide) ?_
    cases h
    exact j_iret hX hR dX10_of_19
theorem s_X10_feed {g : G0} {B : Nat → Nat} {n : Nat} {E : Mem → Mem} {a1 : Int} {S : Mem} {r : Int} {S' : Mem} (hfl : g.2.2.2.2 = true) (hE : Lens E PM) (h : g_X10_feed a1 S = some (r, S')) : Cn g B n yX10_feed cX10_feed 2 (some .int) 2 [vR 56, vI (a1)] (E S) (QcI g B n r (E S')) := by
  refine Cn.of (by decide +kernel) (Nat.le_of_ble_eq_true rfl) (fun X hg hnl hX hR => ?_)
  subst hg
  have hX : Ctx X cX10_feed "TelegramFeelingsModel" 2 := hX
  unfold g_X10_feed at h
  show JW X B n 0 0 0 [(0, vR 56), (1, vI (a1))] [] (E S) (QM X (QcI (gX X) B n r (E S')))
  refine j_iload_n hX 1 dX10_feed_0 rfl rfl ?_
  refine j_iconst hX dX10_feed_1 (rc rfl) ?_
  refine j_sipush hX dX10_feed_2 (rc rfl) (by decide) ?_
  refine j_callSI hX mwX10_in msX10_in wd1326 hyX10_in (by omega) (by decide) ⟨Nat.zero_le _, Nat.zero_le _⟩ dX10_feed_5 (s_X10_in hfl rfl) npX10_in rfl (Nat.le_of_ble_eq_true rfl) ?_
  refine j_if_ne hX (tgt := 13) dX10_feed_8 (by decide) (fun hc => ?_) (fun hc => ?_)
  · rw [if_neg hc] at h
    refine j_aload_n hX 0 dX10_feed_13 rfl rfl ?_
    refine j_getI (k := 18) hX hE cbX10 ty56 pc56 (by decide) rfl wd1158 rfl dX10_feed_14 ?_
    refine j_bipush hX dX10_feed_17 (rc rfl) (by decide) ?_
    refine j_icmp_ne hX (tgt := 25) dX10_feed_19 (by decide) (fun hc => ?_) (fun hc => ?_)
    · rw [if_neg hc] at h
      refine j_aload_n hX 0 dX10_feed_25 rfl rfl ?_
      refine j_getS (k := 17) hX hfl cbX10 ty56 (by decide) rfl wd1157 rfl sb56_17 dX10_feed_26 ?_
      refine j_aload_n hX 0 dX10_feed_29 rfl rfl ?_
      refine j_getI (k := 18) hX hE cbX10 ty56 pc56 (by decide) rfl wd1158 rfl dX10_feed_30 ?_
      refine j_iload_n hX 1 dX10_feed_33 rfl rfl ?_
      refine j_i2b hX dX10_feed_34 ?_
      obtain ⟨S1, hv, h⟩ := bs h
      refine j_bast hX hE ty69 pc69 hv dX10_feed_35 ?_
      refine j_aload_n hX 0 dX10_feed_36 rfl rfl ?_
      refine j_dup hX dX10_feed_37 rfl ?_
      refine j_getI (k := 18) hX hE cbX10 ty56 pc56 (by decide) rfl wd1158 rfl dX10_feed_38 ?_
      refine j_iconst hX dX10_feed_41 (rc rfl) ?_
      refine j_iadd hX dX10_feed_42 ?_
      refine j_putI (k := 18) hX hE cbX10 ty56 pc56 (by decide) rfl wd1158 rfl (Or.inl rfl) rfl dX10_feed_43 ?_
      obtain ⟨S2, hx, h⟩ := ap_s h
      rw [← hx]
      clear hx
      refine j_aload_n hX 0 dX10_feed_46 rfl rfl ?_
      refine j_getI (k := 18) hX hE cbX10 ty56 pc56 (by decide) rfl wd1158 rfl dX10_feed_47 ?_
      cases h
      exact j_iret hX hR dX10_feed_50
    · rw [if_pos hc] at h
      refine j_bipush hX dX10_feed_22 (rc rfl) (by decide) ?_
      cases h
      exact j_iret hX hR dX10_feed_24
  · rw [if_pos hc] at h
    refine j_iconst hX dX10_feed_11 (rc rfl) ?_
    cases h
    exact j_iret hX hR dX10_feed_12
theorem s_X10_look {g : G0} {B : Nat → Nat} {n : Nat} {E : Mem → Mem}  {S : Mem} {r : Int} (hfl : g.2.2.2.2 = true) (hE : Lens E PM) (h : g_X10_look S = some r) : Cn g B n yX10_look cX10_look 1 (some .int) 1 [vR 56] (E S) (QcI g B n r (E S)) := by
  refine Cn.of (by decide +kernel) (Nat.le_of_ble_eq_true rfl) (fun X hg hnl hX hR => ?_)
  subst hg
  have hX : Ctx X cX10_look "TelegramFeelingsModel" 1 := hX
  unfold g_X10_look at h
  show JW X B n 0 0 0 [(0, vR 56)] [] (E S) (QM X (QcI (gX X) B n r (E S)))
  refine j_aload_n hX 0 dX10_look_0 rfl rfl ?_
  refine j_getI (k := 19) hX hE cbX10 ty56 pc56 (by decide) rfl wd1159 rfl dX10_look_1 ?_
  refine j_aload_n hX 0 dX10_look_4 rfl rfl ?_
  refine j_getI (k := 18) hX hE cbX10 ty56 pc56 (by decide) rfl wd1158 rfl dX10_look_5 ?_
  refine j_icmp_ge hX (tgt := 23) dX10_look_8 (by decide) (fun hc => ?_) (fun hc => ?_)
  · rw [if_pos hc] at h
    refine j_iconst hX dX10_look_23 (rc rfl) ?_
    cases h
    exact j_iret hX hR dX10_look_24
  · rw [if_neg hc] at h
    refine j_aload_n hX 0 dX10_look_11 rfl rfl ?_
    refine j_getS (k := 17) hX hfl cbX10 ty56 (by decide) rfl wd1157 rfl sb56_17 dX10_look_12 ?_
    refine j_aload_n hX 0 dX10_look_15 rfl rfl ?_
    refine j_getI (k := 19) hX hE cbX10 ty56 pc56 (by decide) rfl wd1159 rfl dX10_look_16 ?_
    obtain ⟨x1, hv, h⟩ := bs h
    refine j_bald hX hE ty69 pc69 hv dX10_look_19 ?_
    refine j_goto hX (tgt := 24) dX10_look_20 (by decide) ?_
    cases h
    exact j_iret hX hR dX10_look_24
theorem s_X10_wrong {g : G0} {B : Nat → Nat} {n : Nat} {E : Mem → Mem}  {S : Mem} {S' : Mem} (hfl : g.2.2.2.2 = true) (hE : Lens E PM) (h : g_X10_wrong S = some S') : Cn g B n yX10_wrong cX10_wrong 1 none 1 [vR 56] (E S) (QcV g B n (E S')) := by
  refine Cn.of (by decide +kernel) (Nat.le_of_ble_eq_true rfl) (fun X hg hnl hX hR => ?_)
  subst hg
  have hX : Ctx X cX10_wrong "TelegramFeelingsModel" 1 := hX
  unfold g_X10_wrong at h
  show JW X B n 0 0 0 [(0, vR 56)] [] (E S) (QM X (QcV (gX X) B n (E S')))
  refine j_aload_n hX 0 dX10_wrong_0 rfl rfl ?_
  refine j_getI (k := 20) hX hE cbX10 ty56 pc56 (by decide) rfl wd1160 rfl dX10_wrong_1 ?_
  refine j_if_ge hX (tgt := 15) dX10_wrong_4 (by decide) (fun hc => ?_) (fun hc => ?_)
  · rw [if_pos hc] at h
    cases h
    exact j_vret hX hR dX10_wrong_15
  · rw [if_neg hc] at h
    refine j_aload_n hX 0 dX10_wrong_7 rfl rfl ?_
    refine j_aload_n hX 0 dX10_wrong_8 rfl rfl ?_
    refine j_getI (k := 19) hX hE cbX10 ty56 pc56 (by decide) rfl wd1159 rfl dX10_wrong_9 ?_
    refine j_putI (k := 20) hX hE cbX10 ty56 pc56 (by decide) rfl wd1160 rfl (Or.inl rfl) rfl dX10_wrong_12 ?_
    obtain ⟨S1, hx, h⟩ := ap_s h
    rw [← hx]
    clear hx
    cases h
    exact j_vret hX hR dX10_wrong_15
theorem s_X10_addStep {g : G0} {B : Nat → Nat} {n : Nat} {E : Mem → Mem} {a1 : Int} {a2 : Int} {S : Mem} {S' : Mem} (hfl : g.2.2.2.2 = true) (hE : Lens E PM) (h : g_X10_addStep a1 a2 S = some S') : Cn g B n yX10_addStep cX10_addStep 3 none 1 [vR 56, vI (a1), vI (a2)] (E S) (QcV g B n (E S')) := by
  refine Cn.of (by decide +kernel) (Nat.le_of_ble_eq_true rfl) (fun X hg hnl hX hR => ?_)
  subst hg
  have hX : Ctx X cX10_addStep "TelegramFeelingsModel" 1 := hX
  unfold g_X10_addStep at h
  show JW X B n 0 0 0 [(0, vR 56), (1, vI (a1)), (2, vI (a2))] [] (E S) (QM X (QcV (gX X) B n (E S')))
  refine j_aload_n hX 0 dX10_addStep_0 rfl rfl ?_
  refine j_getS (k := 23) hX hfl cbX10 ty56 (by decide) rfl wd1163 rfl sb56_23 dX10_addStep_1 ?_
  refine j_sipush hX dX10_addStep_4 (rc rfl) (by decide) ?_
  refine j_aload_n hX 0 dX10_addStep_7 rfl rfl ?_
  refine j_getI (k := 22) hX hE cbX10 ty56 pc56 (by decide) rfl wd1162 rfl dX10_addStep_8 ?_
  refine j_iadd hX dX10_addStep_11 ?_
  refine j_iload_n hX 1 dX10_addStep_12 rfl rfl ?_
  refine j_i2b hX dX10_addStep_13 ?_
  obtain ⟨S1, hv, h⟩ := bs h
  refine j_bast hX hE ty70 pc70 hv dX10_addStep_14 ?_
  refine j_aload_n hX 0 dX10_addStep_15 rfl rfl ?_
  refine j_getS (k := 24) hX hfl cbX10 ty56 (by decide) rfl wd1164 rfl sb56_24 dX10_addStep_16 ?_
  refine j_sipush hX dX10_addStep_19 (rc rfl) (by decide) ?_
  refine j_aload_n hX 0 dX10_addStep_22 rfl rfl ?_
  refine j_getI (k := 22) hX hE cbX10 ty56 pc56 (by decide) rfl wd1162 rfl dX10_addStep_23 ?_
  refine j_iadd hX dX10_addStep_26 ?_
  refine j_iload_n hX 2 dX10_addStep_27 rfl rfl ?_
  obtain ⟨S2, hv, h⟩ := bs h
  refine j_iast hX hE ty71 pc71 hv dX10_addStep_28 ?_
  refine j_aload_n hX 0 dX10_addStep_29 rfl rfl ?_
  refine j_dup hX dX10_addStep_30 rfl ?_
  refine j_getI (k := 22) hX hE cbX10 ty56 pc56 (by decide) rfl wd1162 rfl dX10_addStep_31 ?_
  refine j_iconst hX dX10_addStep_34 (rc rfl) ?_
  refine j_iadd hX dX10_addStep_35 ?_
  refine j_putI (k := 22) hX hE cbX10 ty56 pc56 (by decide) rfl wd1162 rfl (Or.inl rfl) rfl dX10_addStep_36 ?_
  obtain ⟨S3, hx, h⟩ := ap_s h
  rw [← hx]
  clear hx
  cases h
  exact j_vret hX hR dX10_addStep_39
theorem s_X10_nameOf {g : G0} {B : Nat → Nat} {n : Nat} {M : Mem} {a1 : Int} {r : Int} (hfl : g.2.2.2.2 = true) (h : g_X10_nameOf a1 = r) : Cn g B n yX10_nameOf cX10_nameOf 1 (some .int) 1 [vI (a1)] M (QcI g B n r M) := by
  refine Cn.of (by decide +kernel) (Nat.le_of_ble_eq_true rfl) (fun X hg hnl hX hR => ?_)
  subst hg
  have hX : Ctx X cX10_nameOf "TelegramFeelingsModel" 1 := hX
  unfold g_X10_nameOf at h
  show JW X B n 0 0 0 [(0, vI (a1))] [] (M) (QM X (QcI (gX X) B n r M))
  refine j_iload_n hX 0 dX10_nameOf_0 rfl rfl ?_
  by_cases hc0 : a1 = 99
  · rw [if_pos hc0] at h
    refine j_lsw (off := 59) hX (tgt := 60) dX10_nameOf_1 (by decide) (by rw [hc0]; decide) (by decide) ?_
    refine j_iconst hX dX10_nameOf_60 (rc rfl) ?_
    subst h
    exact j_iret hX hR dX10_nameOf_61
  · rw [if_neg hc0] at h
    by_cases hc1 : a1 = 100
    · rw [if_pos hc1] at h
      refine j_lsw (off := 67) hX (tgt := 68) dX10_nameOf_1 (by decide) (by rw [hc1]; decide) (by decide) ?_
      refine j_iconst hX dX10_nameOf_68 (rc rfl) ?_
      subst h
      exact j_iret hX hR dX10_nameOf_69
    · rw [if_neg hc1] at h
      by_cases hc2 : a1 = 108
      · rw [if_pos hc2] at h
        refine j_lsw (off := 63) hX (tgt := 64) dX10_nameOf_1 (by decide) (by rw [hc2]; decide) (by decide) ?_
        refine j_iconst hX dX10_nameOf_64 (rc rfl) ?_
        subst h
        exact j_iret hX hR dX10_nameOf_65
      · rw [if_neg hc2] at h
        by_cases hc3 : a1 = 112
        · rw [if_pos hc3] at h
          refine j_lsw (off := 65) hX (tgt := 66) dX10_nameOf_1 (by decide) (by rw [hc3]; decide) (by decide) ?_
          refine j_iconst hX dX10_nameOf_66 (rc rfl) ?_
          subst h
          exact j_iret hX hR dX10_nameOf_67
        · rw [if_neg hc3] at h
          by_cases hc4 : a1 = 115
          · rw [if_pos hc4] at h
            refine j_lsw (off := 61) hX (tgt := 62) dX10_nameOf_1 (by decide) (by rw [hc4]; decide) (by decide) ?_
            refine j_iconst hX dX10_nameOf_62 (rc rfl) ?_
            subst h
            exact j_iret hX hR dX10_nameOf_63
          · rw [if_neg hc4] at h
            by_cases hc5 : a1 = 119
            · rw [if_pos hc5] at h
              refine j_lsw (off := 69) hX (tgt := 70) dX10_nameOf_1 (by decide) (by rw [hc5]; decide) (by decide) ?_
              refine j_iconst hX dX10_nameOf_70 (rc rfl) ?_
              subst h
              exact j_iret hX hR dX10_nameOf_71
            · rw [if_neg hc5] at h
              refine j_lsw (off := 71) hX (tgt := 72) dX10_nameOf_1 (by decide) (lk_none (by simp [hc0, Ne.symm hc0, hc1, Ne.symm hc1, hc2, Ne.symm hc2, hc3, Ne.symm hc3, hc4, Ne.symm hc4, hc5, Ne.symm hc5])) (by decide) ?_
              refine j_iconst hX dX10_nameOf_72 (rc rfl) ?_
              subst h
              exact j_iret hX hR dX10_nameOf_73
theorem s_X10_opens {g : G0} {B : Nat → Nat} {n : Nat} {E : Mem → Mem}  {S : Mem} {r : Int} {S' : Mem} (hfl : g.2.2.2.2 = true) (hE : Lens E PM) (h : g_X10_opens S = some (r, S')) : Cn g B n yX10_opens cX10_opens 1 (some .boolean) 2 [vR 56] (E S) (QcI g B n r (E S')) := by
  refine Cn.of (by decide +kernel) (Nat.le_of_ble_eq_true rfl) (fun X hg hnl hX hR => ?_)
  subst hg
  have hX : Ctx X cX10_opens "TelegramFeelingsModel" 2 := hX
  unfold g_X10_opens at h
  show JW X B n 0 0 0 [(0, vR 56)] [] (E S) (QM X (QcI (gX X) B n r (E S')))
  refine j_aload_n hX 0 dX10_opens_0 rfl rfl ?_
  refine j_getI (k := 21) hX hE cbX10 ty56 pc56 (by decide) rfl wd1161 rfl dX10_opens_1 ?_
  refine j_bipush hX dX10_opens_4 (rc rfl) (by decide) ?_
  refine j_icmp_ne hX (tgt := 15) dX10_opens_6 (by decide) (fun hc => ?_) (fun hc => ?_)
  · rw [if_neg hc] at h
    refine j_aload_n hX 0 dX10_opens_15 rfl rfl ?_
    refine j_dup hX dX10_opens_16 rfl ?_
    refine j_getI (k := 21) hX hE cbX10 ty56 pc56 (by decide) rfl wd1161 rfl dX10_opens_17 ?_
    refine j_iconst hX dX10_opens_20 (rc rfl) ?_
    refine j_iadd hX dX10_opens_21 ?_
    refine j_putI (k := 21) hX hE cbX10 ty56 pc56 (by decide) rfl wd1161 rfl (Or.inl rfl) rfl dX10_opens_22 ?_
    obtain ⟨S1, hx, h⟩ := ap_s h
    rw [← hx]
    clear hx
    refine j_aload_n hX 0 dX10_opens_25 rfl rfl ?_
    refine j_dup hX dX10_opens_26 rfl ?_
    refine j_getI (k := 19) hX hE cbX10 ty56 pc56 (by decide) rfl wd1159 rfl dX10_opens_27 ?_
    refine j_iconst hX dX10_opens_30 (rc rfl) ?_
    refine j_iadd hX dX10_opens_31 ?_
    refine j_putI (k := 19) hX hE cbX10 ty56 pc56 (by decide) rfl wd1159 rfl (Or.inl rfl) rfl dX10_opens_32 ?_
    obtain ⟨S2, hx, h⟩ := ap_s h
    rw [← hx]
    clear hx
    refine j_iconst hX dX10_opens_35 (rc rfl) ?_
    cases h
    exact j_zret hX hR (Or.inr rfl) dX10_opens_36
  · rw [if_pos hc] at h
    refine j_aload_n hX 0 dX10_opens_9 rfl rfl ?_
    obtain ⟨S3, h1, h⟩ := bs h
    refine j_callVV hX mwX10_wrong miX10_wrong wd1444 cbX10 ty56 hyX10_wrong (by omega) (by decide) ⟨Nat.zero_le _, Nat.zero_le _⟩ dX10_opens_10 (s_X10_wrong hfl hE h1) npX10_wrong rfl (Nat.le_of_ble_eq_true rfl) ?_
    refine j_iconst hX dX10_opens_13 (rc rfl) ?_
    cases h
    exact j_zret hX hR (Or.inl rfl) dX10_opens_14
theorem sl_X10_figure_4 {X : K0} {B : Nat → Nat} {n : Nat} {E : Mem → Mem} {S' : Mem} (hX : Ctx X cX10_figure "TelegramFeelingsModel" 2) (hR : CR X none) (hfl : (gX X).2.2.2.2 = true) (hnl : X.2.2.2.2.2.2.2.2.2.2.2.2.2.2 = 3) (hE : Lens E PM) {k52 : Int → Int → Mem → Option Mem}  (K52 : ∀ (v1 : Int) (v2 : Int) (S : Mem), k52 v1 v2 S = some S' → JW X B n 0 0 52 [(0, vR 56), (1, vI (v1)), (2, vI (v2))] [] (E S) (QM X (QcV (gX X) B n (E S')))) : ∀ (fu : Nat) (v1 : Int) (v2 : Int) (S : Mem), g_X10_figure_L4 k52 fu v1 v2 S = some S' → JW X B n 0 0 4 [(0, vR 56), (1, vI (v1)), (2, vI (v2))] [] (E S) (QM X (QcV (gX X) B n (E S'))) := by
  intro fu
  induction fu with
  | zero =>
    intro v1 v2 S h
    rw [g_X10_figure_L4] at h
    cases h
  | succ fu ih =>
    intro v1 v2 S h
    rw [g_X10_figure_L4] at h
    refine j_iload_n hX 2 dX10_figure_4 rfl rfl ?_
    refine j_iconst hX dX10_figure_5 (rc rfl) ?_
    refine j_icmp_ge hX (tgt := 52) dX10_figure_6 (by decide) (fun hc => ?_) (fun hc => ?_)
    · rw [if_pos hc] at h
      refine j_sub [0, 1, 2] rfl ?_
      exact K52 _ _ _ h
    · rw [if_neg hc] at h
      refine j_aload_n hX 0 dX10_figure_9 rfl rfl ?_
      obtain ⟨x1, h1, h⟩ := bs h
      refine j_callVI hX mwX10_look miX10_look wd1429 cbX10 ty56 hyX10_look (by omega) (by decide) ⟨Nat.zero_le _, Nat.zero_le _⟩ dX10_figure_10 (s_X10_look hfl hE h1) npX10_look rfl (Nat.le_of_ble_eq_true rfl) ?_
      refine j_bipush hX dX10_figure_13 (rc rfl) (by decide) ?_
      refine j_bipush hX dX10_figure_15 (rc rfl) (by decide) ?_
      refine j_callSI hX mwX10_in msX10_in wd1326 hyX10_in (by omega) (by decide) ⟨Nat.zero_le _, Nat.zero_le _⟩ dX10_figure_17 (s_X10_in hfl rfl) npX10_in rfl (Nat.le_of_ble_eq_true rfl) ?_
      refine j_if_eq hX (tgt := 52) dX10_figure_20 (by decide) (fun hc => ?_) (fun hc => ?_)
      · rw [if_pos hc] at h
        refine j_sub [0, 1, 2] rfl ?_
        exact K52 _ _ _ h
      · rw [if_neg hc] at h
        refine j_bipush hX dX10_figure_23 (rc rfl) (by decide) ?_
        refine j_iload_n hX 1 dX10_figure_25 rfl rfl ?_
        refine j_imul hX dX10_figure_26 ?_
        refine j_aload_n hX 0 dX10_figure_27 rfl rfl ?_
        obtain ⟨x2, h1, h⟩ := bs h
        refine j_callVI hX mwX10_look miX10_look wd1429 cbX10 ty56 hyX10_look (by omega) (by decide) ⟨Nat.zero_le _, Nat.zero_le _⟩ dX10_figure_28 (s_X10_look hfl hE h1) npX10_look rfl (Nat.le_of_ble_eq_true rfl) ?_
        refine j_iadd hX dX10_figure_31 ?_
        refine j_bipush hX dX10_figure_32 (rc rfl) (by decide) ?_
        refine j_isub hX dX10_figure_34 ?_
        obtain ⟨x3, hx, h⟩ := ap_s h
        rw [← hx]
        clear hx
        refine j_istore_n (L' := [(1, vI (x3)), (0, vR 56), (2, vI (v2))]) hX dX10_figure_35 rfl hnl (by decide) rfl ?_
        refine j_iinc (L' := [(2, vI (w32 (v2 + 1))), (1, vI (x3)), (0, vR 56)]) hX 2 dX10_figure_36 hnl (by decide) rfl rfl ?_
        refine j_aload_n hX 2 dX10_figure_39 rfl rfl ?_
        refine j_dup hX dX10_figure_40 rfl ?_
        refine j_getI (k := 19) hX hE cbX10 ty56 pc56 (by decide) rfl wd1159 rfl dX10_figure_41 ?_
        refine j_iconst hX dX10_figure_44 (rc rfl) ?_
        refine j_iadd hX dX10_figure_45 ?_
        refine j_putI (k := 19) hX hE cbX10 ty56 pc56 (by decide) rfl wd1159 rfl (Or.inl rfl) rfl dX10_figure_46 ?_
        obtain ⟨S4, hx, h⟩ := ap_s h
        rw [← hx]
        clear hx
        refine j_goto hX (tgt := 4) dX10_figure_49 (by decide) ?_
        refine j_sub [2, 1, 0] rfl ?_
        exact ih _ _ _ h
theorem sj_X10_figure_52 {X : K0} {B : Nat → Nat} {n : Nat} {E : Mem → Mem} {S' : Mem} (hX : Ctx X cX10_figure "TelegramFeelingsModel" 2) (hR : CR X none) (hfl : (gX X).2.2.2.2 = true) (hnl : X.2.2.2.2.2.2.2.2.2.2.2.2.2.2 = 3) (hE : Lens E PM)   {v1 : Int} {v2 : Int} {S : Mem} (h : g_X10_figure_J52 v1 v2 S = some S') : JW X B n 0 0 52 [(0, vR 56), (1, vI (v1)), (2, vI (v2))] [] (E S) (QM X (QcV (gX X) B n (E S'))) := by
  unfold g_X10_figure_J52 at h
  refine j_iload_n hX 2 dX10_figure_52 rfl rfl ?_
  refine j_if_eq hX (tgt := 70) dX10_figure_53 (by decide) (fun hc => ?_) (fun hc => ?_)
  · rw [if_pos hc] at h
    refine j_aload_n hX 0 dX10_figure_70 rfl rfl ?_
    obtain ⟨S8, h1, h⟩ := bs h
    refine j_callVV hX mwX10_wrong miX10_wrong wd1444 cbX10 ty56 hyX10_wrong (by omega) (by decide) ⟨Nat.zero_le _, Nat.zero_le _⟩ dX10_figure_71 (s_X10_wrong hfl hE h1) npX10_wrong rfl (Nat.le_of_ble_eq_true rfl) ?_
    refine j_aload_n hX 0 dX10_figure_74 rfl rfl ?_
    refine j_iconst hX dX10_figure_75 (rc rfl) ?_
    refine j_iload_n hX 1 dX10_figure_76 rfl rfl ?_
    obtain ⟨S9, h1, h⟩ := bs h
    refine j_callVV hX mwX10_addStep miX10_addStep wd1436 cbX10 ty56 hyX10_addStep (by omega) (by decide) ⟨Nat.zero_le _, Nat.zero_le _⟩ dX10_figure_77 (s_X10_addStep hfl hE h1) npX10_addStep rfl (Nat.le_of_ble_eq_true rfl) ?_
    cases h
    exact j_vret hX hR dX10_figure_80
  · rw [if_neg hc] at h
    refine j_aload_n hX 0 dX10_figure_56 rfl rfl ?_
    obtain ⟨x10, h1, h⟩ := bs h
    refine j_callVI hX mwX10_look miX10_look wd1429 cbX10 ty56 hyX10_look (by omega) (by decide) ⟨Nat.zero_le _, Nat.zero_le _⟩ dX10_figure_57 (s_X10_look hfl hE h1) npX10_look rfl (Nat.le_of_ble_eq_true rfl) ?_
    refine j_bipush hX dX10_figure_60 (rc rfl) (by decide) ?_
    refine j_bipush hX dX10_figure_62 (rc rfl) (by decide) ?_
    refine j_callSI hX mwX10_in msX10_in wd1326 hyX10_in (by omega) (by decide) ⟨Nat.zero_le _, Nat.zero_le _⟩ dX10_figure_64 (s_X10_in hfl rfl) npX10_in rfl (Nat.le_of_ble_eq_true rfl) ?_
    refine j_if_eq hX (tgt := 74) dX10_figure_67 (by decide) (fun hc => ?_) (fun hc => ?_)
    · rw [if_pos hc] at h
      refine j_aload_n hX 0 dX10_figure_74 rfl rfl ?_
      refine j_iconst hX dX10_figure_75 (rc rfl) ?_
      refine j_iload_n hX 1 dX10_figure_76 rfl rfl ?_
      obtain ⟨S11, h1, h⟩ := bs h
      refine j_callVV hX mwX10_addStep miX10_addStep wd1436 cbX10 ty56 hyX10_addStep (by omega) (by decide) ⟨Nat.zero_le _, Nat.zero_le _⟩ dX10_figure_77 (s_X10_addStep hfl hE h1) npX10_addStep rfl (Nat.le_of_ble_eq_true rfl) ?_
      cases h
      exact j_vret hX hR dX10_figure_80
    · rw [if_neg hc] at h
      refine j_aload_n hX 0 dX10_figure_70 rfl rfl ?_
      obtain ⟨S12, h1, h⟩ := bs h
      refine j_callVV hX mwX10_wrong miX10_wrong wd1444 cbX10 ty56 hyX10_wrong (by omega) (by decide) ⟨Nat.zero_le _, Nat.zero_le _⟩ dX10_figure_71 (s_X10_wrong hfl hE h1) npX10_wrong rfl (Nat.le_of_ble_eq_true rfl) ?_
      refine j_aload_n hX 0 dX10_figure_74 rfl rfl ?_
      refine j_iconst hX dX10_figure_75 (rc rfl) ?_
      refine j_iload_n hX 1 dX10_figure_76 rfl rfl ?_
      obtain ⟨S13, h1, h⟩ := bs h
      refine j_callVV hX mwX10_addStep miX10_addStep wd1436 cbX10 ty56 hyX10_addStep (by omega) (by decide) ⟨Nat.zero_le _, Nat.zero_le _⟩ dX10_figure_77 (s_X10_addStep hfl hE h1) npX10_addStep rfl (Nat.le_of_ble_eq_true rfl) ?_
      cases h
      exact j_vret hX hR dX10_figure_80
theorem s_X10_figure {g : G0} {B : Nat → Nat} {n : Nat} {E : Mem → Mem}  {S : Mem} {S' : Mem} (hfl : g.2.2.2.2 = true) (hE : Lens E PM) (h : g_X10_figure S = some S') : Cn g B n yX10_figure cX10_figure 3 none 2 [vR 56] (E S) (QcV g B n (E S')) := by
  refine Cn.of (by decide +kernel) (Nat.le_of_ble_eq_true rfl) (fun X hg hnl hX hR => ?_)
  subst hg
  have hX : Ctx X cX10_figure "TelegramFeelingsModel" 2 := hX
  unfold g_X10_figure at h
  show JW X B n 0 0 0 [(0, vR 56)] [] (E S) (QM X (QcV (gX X) B n (E S')))
  refine j_iconst hX dX10_figure_0 (rc rfl) ?_
  refine j_istore_n (L' := [(1, vI (0)), (0, vR 56)]) hX dX10_figure_1 rfl hnl (by decide) rfl ?_
  refine j_iconst hX dX10_figure_2 (rc rfl) ?_
  refine j_istore_n (L' := [(2, vI (0)), (1, vI (0)), (0, vR 56)]) hX dX10_figure_3 rfl hnl (by decide) rfl ?_
  refine j_sub [2, 1, 0] rfl ?_
  refine sl_X10_figure_4 hX hR hfl hnl hE (fun y6 y7 S5 h => ?_) _ _ _ _ h
  refine j_sub [0, 1, 2] rfl ?_
  exact sj_X10_figure_52 hX hR hfl hnl hE  h
theorem sl_X10_product_4 {X : K0} {B : Nat → Nat} {n : Nat} {E : Mem → Mem} {S' : Mem} {rO : Mem → Option Mem} {dd : Nat} (hdd : 6 ≤ dd) (hX : Ctx X cX10_product "TelegramFeelingsModel" (dd + 1)) (hR : CR X none) (hfl : (gX X).2.2.2.2 = true) (hnl : X.2.2.2.2.2.2.2.2.2.2.2.2.2.2 = 2) (hE : Lens E PM) (hO : ∀  (S : Mem) (S1 : Mem), rO  S = some S1 → Cn (gX X) B n yX10_operand cX10_operand 2 none dd [vR 56] (E S) (QcV (gX X) B n (E S1)))    : ∀ (fu : Nat) (S : Mem), g_X10_product_L4 rO fu S = some S' → JW X B n 0 0 4 [(0, vR 56)] [] (E S) (QM X (QcV (gX X) B n (E S'))) := by
  intro fu
  induction fu with
  | zero =>
    intro S h
    rw [g_X10_product_L4] at h
    cases h
  | succ fu ih =>
    intro S h
    rw [g_X10_product_L4] at h
    refine j_aload_n hX 0 dX10_product_4 rfl rfl ?_
    refine j_getI (k := 20) hX hE cbX10 ty56 pc56 (by decide) rfl wd1160 rfl dX10_product_5 ?_
    refine j_if_ge hX (tgt := 66) dX10_product_8 (by decide) (fun hc => ?_) (fun hc => ?_)
    · rw [if_pos hc] at h
      cases h
      exact j_vret hX hR dX10_product_66
    · rw [if_neg hc] at h
      refine j_aload_n hX 0 dX10_product_11 rfl rfl ?_
      obtain ⟨x2, h1, h⟩ := bs h
      refine j_callVI hX mwX10_look miX10_look wd1429 cbX10 ty56 hyX10_look (by omega) (by decide) ⟨Nat.zero_le _, Nat.zero_le _⟩ dX10_product_12 (s_X10_look hfl hE h1) npX10_look rfl (Nat.le_of_ble_eq_true rfl) ?_
      refine j_bipush hX dX10_product_15 (rc rfl) (by decide) ?_
      refine j_icmp_eq hX (tgt := 38) dX10_product_17 (by decide) (fun hc => ?_) (fun hc => ?_)
      · rw [if_pos hc] at h
        refine j_aload_n hX 0 dX10_product_38 rfl rfl ?_
        obtain ⟨x3, h1, h⟩ := bs h
        refine j_callVI hX mwX10_look miX10_look wd1429 cbX10 ty56 hyX10_look (by omega) (by decide) ⟨Nat.zero_le _, Nat.zero_le _⟩ dX10_product_39 (s_X10_look hfl hE h1) npX10_look rfl (Nat.le_of_ble_eq_true rfl) ?_
        refine j_istore_n (L' := [(1, vI (x3)), (0, vR 56)]) hX dX10_product_42 rfl hnl (by decide) rfl ?_
        refine j_aload_n hX 1 dX10_product_43 rfl rfl ?_
        refine j_dup hX dX10_product_44 rfl ?_
        refine j_getI (k := 19) hX hE cbX10 ty56 pc56 (by decide) rfl wd1159 rfl dX10_product_45 ?_
        refine j_iconst hX dX10_product_48 (rc rfl) ?_
        refine j_iadd hX dX10_product_49 ?_
        refine j_putI (k := 19) hX hE cbX10 ty56 pc56 (by decide) rfl wd1159 rfl (Or.inl rfl) rfl dX10_product_50 ?_
        obtain ⟨S4, hx, h⟩ := ap_s h
        rw [← hx]
        clear hx
        refine j_aload_n hX 1 dX10_product_53 rfl rfl ?_
        obtain ⟨S5, h1, h⟩ := bs h
        refine j_callVV hX mwX10_operand miX10_operand wd1425 cbX10 ty56 hyX10_operand (by omega) (by decide) ⟨Nat.zero_le _, Nat.zero_le _⟩ dX10_product_54 (hO _ _ h1) npX10_operand rfl (Nat.le_of_ble_eq_true rfl) ?_
        refine j_aload_n hX 1 dX10_product_57 rfl rfl ?_
        refine j_iload_n hX 0 dX10_product_58 rfl rfl ?_
        refine j_iconst hX dX10_product_59 (rc rfl) ?_
        obtain ⟨S6, h1, h⟩ := bs h
        refine j_callVV hX mwX10_addStep miX10_addStep wd1436 cbX10 ty56 hyX10_addStep (by omega) (by decide) ⟨Nat.zero_le _, Nat.zero_le _⟩ dX10_product_60 (s_X10_addStep hfl hE h1) npX10_addStep rfl (Nat.le_of_ble_eq_true rfl) ?_
        refine j_goto hX (tgt := 4) dX10_product_63 (by decide) ?_
        refine j_sub [1] rfl ?_
        exact ih _ h
      · rw [if_neg hc] at h
        refine j_aload_n hX 0 dX10_product_20 rfl rfl ?_
        obtain ⟨x7, h1, h⟩ := bs h
        refine j_callVI hX mwX10_look miX10_look wd1429 cbX10 ty56 hyX10_look (by omega) (by decide) ⟨Nat.zero_le _, Nat.zero_le _⟩ dX10_product_21 (s_X10_look hfl hE h1) npX10_look rfl (Nat.le_of_ble_eq_true rfl) ?_
        refine j_bipush hX dX10_product_24 (rc rfl) (by decide) ?_
        refine j_icmp_eq hX (tgt := 38) dX10_product_26 (by decide) (fun hc => ?_) (fun hc => ?_)
        · rw [if_pos hc] at h
          refine j_aload_n hX 0 dX10_product_38 rfl rfl ?_
          obtain ⟨x8, h1, h⟩ := bs h
          refine j_callVI hX mwX10_look miX10_look wd1429 cbX10 ty56 hyX10_look (by omega) (by decide) ⟨Nat.zero_le _, Nat.zero_le _⟩ dX10_product_39 (s_X10_look hfl hE h1) npX10_look rfl (Nat.le_of_ble_eq_true rfl) ?_
          refine j_istore_n (L' := [(1, vI (x8)), (0, vR 56)]) hX dX10_product_42 rfl hnl (by decide) rfl ?_
          refine j_aload_n hX 1 dX10_product_43 rfl rfl ?_
          refine j_dup hX dX10_product_44 rfl ?_
          refine j_getI (k := 19) hX hE cbX10 ty56 pc56 (by decide) rfl wd1159 rfl dX10_product_45 ?_
          refine j_iconst hX dX10_product_48 (rc rfl) ?_
          refine j_iadd hX dX10_product_49 ?_
          refine j_putI (k := 19) hX hE cbX10 ty56 pc56 (by decide) rfl wd1159 rfl (Or.inl rfl) rfl dX10_product_50 ?_
          obtain ⟨S9, hx, h⟩ := ap_s h
          rw [← hx]
          clear hx
          refine j_aload_n hX 1 dX10_product_53 rfl rfl ?_
          obtain ⟨S10, h1, h⟩ := bs h
          refine j_callVV hX mwX10_operand miX10_operand wd1425 cbX10 ty56 hyX10_operand (by omega) (by decide) ⟨Nat.zero_le _, Nat.zero_le _⟩ dX10_product_54 (hO _ _ h1) npX10_operand rfl (Nat.le_of_ble_eq_true rfl) ?_
          refine j_aload_n hX 1 dX10_product_57 rfl rfl ?_
          refine j_iload_n hX 0 dX10_product_58 rfl rfl ?_
          refine j_iconst hX dX10_product_59 (rc rfl) ?_
          obtain ⟨S11, h1, h⟩ := bs h
          refine j_callVV hX mwX10_addStep miX10_addStep wd1436 cbX10 ty56 hyX10_addStep (by omega) (by decide) ⟨Nat.zero_le _, Nat.zero_le _⟩ dX10_product_60 (s_X10_addStep hfl hE h1) npX10_addStep rfl (Nat.le_of_ble_eq_true rfl) ?_
          refine j_goto hX (tgt := 4) dX10_product_63 (by decide) ?_
          refine j_sub [1] rfl ?_
          exact ih _ h
        · rw [if_neg hc] at h
          refine j_aload_n hX 0 dX10_product_29 rfl rfl ?_
          obtain ⟨x12, h1, h⟩ := bs h
          refine j_callVI hX mwX10_look miX10_look wd1429 cbX10 ty56 hyX10_look (by omega) (by decide) ⟨Nat.zero_le _, Nat.zero_le _⟩ dX10_product_30 (s_X10_look hfl hE h1) npX10_look rfl (Nat.le_of_ble_eq_true rfl) ?_
          refine j_bipush hX dX10_product_33 (rc rfl) (by decide) ?_
          refine j_icmp_ne hX (tgt := 66) dX10_product_35 (by decide) (fun hc => ?_) (fun hc => ?_)
          · rw [if_neg hc] at h
            cases h
            exact j_vret hX hR dX10_product_66
          · rw [if_pos hc] at h
            refine j_aload_n hX 0 dX10_product_38 rfl rfl ?_
            obtain ⟨x13, h1, h⟩ := bs h
            refine j_callVI hX mwX10_look miX10_look wd1429 cbX10 ty56 hyX10_look (by omega) (by decide) ⟨Nat.zero_le _, Nat.zero_le _⟩ dX10_product_39 (s_X10_look hfl hE h1) npX10_look rfl (Nat.le_of_ble_eq_true rfl) ?_
            refine j_istore_n (L' := [(1, vI (x13)), (0, vR 56)]) hX dX10_product_42 rfl hnl (by decide) rfl ?_
            refine j_aload_n hX 1 dX10_product_43 rfl rfl ?_
            refine j_dup hX dX10_product_44 rfl ?_
            refine j_getI (k := 19) hX hE cbX10 ty56 pc56 (by decide) rfl wd1159 rfl dX10_product_45 ?_
            refine j_iconst hX dX10_product_48 (rc rfl) ?_
            refine j_iadd hX dX10_product_49 ?_
            refine j_putI (k := 19) hX hE cbX10 ty56 pc56 (by decide) rfl wd1159 rfl (Or.inl rfl) rfl dX10_product_50 ?_
            obtain ⟨S14, hx, h⟩ := ap_s h
            rw [← hx]
            clear hx
            refine j_aload_n hX 1 dX10_product_53 rfl rfl ?_
            obtain ⟨S15, h1, h⟩ := bs h
            refine j_callVV hX mwX10_operand miX10_operand wd1425 cbX10 ty56 hyX10_operand (by omega) (by decide) ⟨Nat.zero_le _, Nat.zero_le _⟩ dX10_product_54 (hO _ _ h1) npX10_operand rfl (Nat.le_of_ble_eq_true rfl) ?_
            refine j_aload_n hX 1 dX10_product_57 rfl rfl ?_
            refine j_iload_n hX 0 dX10_product_58 rfl rfl ?_
            refine j_iconst hX dX10_product_59 (rc rfl) ?_
            obtain ⟨S16, h1, h⟩ := bs h
            refine j_callVV hX mwX10_addStep miX10_addStep wd1436 cbX10 ty56 hyX10_addStep (by omega) (by decide) ⟨Nat.zero_le _, Nat.zero_le _⟩ dX10_product_60 (s_X10_addStep hfl hE h1) npX10_addStep rfl (Nat.le_of_ble_eq_true rfl) ?_
            refine j_goto hX (tgt := 4) dX10_product_63 (by decide) ?_
            refine j_sub [1] rfl ?_
            exact ih _ h
theorem s_X10_product {g : G0} {B : Nat → Nat} {n : Nat} {E : Mem → Mem}  {S : Mem} {S' : Mem} (hfl : g.2.2.2.2 = true) {rO : Mem → Option Mem} {dd : Nat} (hdd : 6 ≤ dd) (hE : Lens E PM) (hO : ∀  (S : Mem) (S1 : Mem), rO  S = some S1 → Cn g B n yX10_operand cX10_operand 2 none dd [vR 56] (E S) (QcV g B n (E S1))) (h : g_X10_product rO S = some S') : Cn g B n yX10_product cX10_product 2 none (dd + 1) [vR 56] (E S) (QcV g B n (E S')) := by
  refine Cn.of (by decide +kernel) (Nat.le_of_ble_eq_true rfl) (fun X hg hnl hX hR => ?_)
  subst hg
  have hX : Ctx X cX10_product "TelegramFeelingsModel" (dd + 1) := hX
  unfold g_X10_product at h
  show JW X B n 0 0 0 [(0, vR 56)] [] (E S) (QM X (QcV (gX X) B n (E S')))
  refine j_aload_n hX 0 dX10_product_0 rfl rfl ?_
  obtain ⟨S1, h1, h⟩ := bs h
  refine j_callVV hX mwX10_operand miX10_operand wd1425 cbX10 ty56 hyX10_operand (by omega) (by decide) ⟨Nat.zero_le _, Nat.zero_le _⟩ dX10_product_1 (hO _ _ h1) npX10_operand rfl (Nat.le_of_ble_eq_true rfl) ?_
  refine j_sub [0] rfl ?_
  refine sl_X10_product_4 hdd hX hR hfl hnl hE hO  _ _ h
theorem sl_X10_sum_4 {X : K0} {B : Nat → Nat} {n : Nat} {E : Mem → Mem} {S' : Mem} {rO : Mem → Option Mem} {dd : Nat} (hdd : 6 ≤ dd) (hX : Ctx X cX10_sum "TelegramFeelingsModel" (dd + 2)) (hR : CR X none) (hfl : (gX X).2.2.2.2 = true) (hnl : X.2.2.2.2.2.2.2.2.2.2.2.2.2.2 = 2) (hE : Lens E PM) (hO : ∀  (S : Mem) (S1 : Mem), rO  S = some S1 → Cn (gX X) B n yX10_operand cX10_operand 2 none dd [vR 56] (E S) (QcV (gX X) B n (E S1)))    : ∀ (fu : Nat) (S : Mem), g_X10_sum_L4 rO fu S = some S' → JW X B n 0 0 4 [(0, vR 56)] [] (E S) (QM X (QcV (gX X) B n (E S'))) := by
  intro fu
  induction fu with
  | zero =>
    intro S h
    rw [g_X10_sum_L4] at h
    cases h
  | succ fu ih =>
    intro S h
    rw [g_X10_sum_L4] at h
    refine j_aload_n hX 0 dX10_sum_4 rfl rfl ?_
    refine j_getI (k := 20) hX hE cbX10 ty56 pc56 (by decide) rfl wd1160 rfl dX10_sum_5 ?_
    refine j_if_ge hX (tgt := 57) dX10_sum_8 (by decide) (fun hc => ?_) (fun hc => ?_)
    · rw [if_pos hc] at h
      cases h
      exact j_vret hX hR dX10_sum_57
    · rw [if_neg hc] at h
      refine j_aload_n hX 0 dX10_sum_11 rfl rfl ?_
      obtain ⟨x2, h1, h⟩ := bs h
      refine j_callVI hX mwX10_look miX10_look wd1429 cbX10 ty56 hyX10_look (by omega) (by decide) ⟨Nat.zero_le _, Nat.zero_le _⟩ dX10_sum_12 (s_X10_look hfl hE h1) npX10_look rfl (Nat.le_of_ble_eq_true rfl) ?_
      refine j_bipush hX dX10_sum_15 (rc rfl) (by decide) ?_
      refine j_icmp_eq hX (tgt := 29) dX10_sum_17 (by decide) (fun hc => ?_) (fun hc => ?_)
      · rw [if_pos hc] at h
        refine j_aload_n hX 0 dX10_sum_29 rfl rfl ?_
        obtain ⟨x3, h1, h⟩ := bs h
        refine j_callVI hX mwX10_look miX10_look wd1429 cbX10 ty56 hyX10_look (by omega) (by decide) ⟨Nat.zero_le _, Nat.zero_le _⟩ dX10_sum_30 (s_X10_look hfl hE h1) npX10_look rfl (Nat.le_of_ble_eq_true rfl) ?_
        refine j_istore_n (L' := [(1, vI (x3)), (0, vR 56)]) hX dX10_sum_33 rfl hnl (by decide) rfl ?_
        refine j_aload_n hX 1 dX10_sum_34 rfl rfl ?_
        refine j_dup hX dX10_sum_35 rfl ?_
        refine j_getI (k := 19) hX hE cbX10 ty56 pc56 (by decide) rfl wd1159 rfl dX10_sum_36 ?_
        refine j_iconst hX dX10_sum_39 (rc rfl) ?_
        refine j_iadd hX dX10_sum_40 ?_
        refine j_putI (k := 19) hX hE cbX10 ty56 pc56 (by decide) rfl wd1159 rfl (Or.inl rfl) rfl dX10_sum_41 ?_
        obtain ⟨S4, hx, h⟩ := ap_s h
        rw [← hx]
        clear hx
        refine j_aload_n hX 1 dX10_sum_44 rfl rfl ?_
        obtain ⟨S5, h1, h⟩ := bs h
        refine j_callVV hX mwX10_product miX10_product wd1421 cbX10 ty56 hyX10_product (by omega) (by decide) ⟨Nat.zero_le _, Nat.zero_le _⟩ dX10_sum_45 (s_X10_product hfl hdd hE hO h1) npX10_product rfl (Nat.le_of_ble_eq_true rfl) ?_
        refine j_aload_n hX 1 dX10_sum_48 rfl rfl ?_
        refine j_iload_n hX 0 dX10_sum_49 rfl rfl ?_
        refine j_iconst hX dX10_sum_50 (rc rfl) ?_
        obtain ⟨S6, h1, h⟩ := bs h
        refine j_callVV hX mwX10_addStep miX10_addStep wd1436 cbX10 ty56 hyX10_addStep (by omega) (by decide) ⟨Nat.zero_le _, Nat.zero_le _⟩ dX10_sum_51 (s_X10_addStep hfl hE h1) npX10_addStep rfl (Nat.le_of_ble_eq_true rfl) ?_
        refine j_goto hX (tgt := 4) dX10_sum_54 (by decide) ?_
        refine j_sub [1] rfl ?_
        exact ih _ h
      · rw [if_neg hc] at h
        refine j_aload_n hX 0 dX10_sum_20 rfl rfl ?_
        obtain ⟨x7, h1, h⟩ := bs h
        refine j_callVI hX mwX10_look miX10_look wd1429 cbX10 ty56 hyX10_look (by omega) (by decide) ⟨Nat.zero_le _, Nat.zero_le _⟩ dX10_sum_21 (s_X10_look hfl hE h1) npX10_look rfl (Nat.le_of_ble_eq_true rfl) ?_
        refine j_bipush hX dX10_sum_24 (rc rfl) (by decide) ?_
        refine j_icmp_ne hX (tgt := 57) dX10_sum_26 (by decide) (fun hc => ?_) (fun hc => ?_)
        · rw [if_neg hc] at h
          cases h
          exact j_vret hX hR dX10_sum_57
        · rw [if_pos hc] at h
          refine j_aload_n hX 0 dX10_sum_29 rfl rfl ?_
          obtain ⟨x8, h1, h⟩ := bs h
          refine j_callVI hX mwX10_look miX10_look wd1429 cbX10 ty56 hyX10_look (by omega) (by decide) ⟨Nat.zero_le _, Nat.zero_le _⟩ dX10_sum_30 (s_X10_look hfl hE h1) npX10_look rfl (Nat.le_of_ble_eq_true rfl) ?_
          refine j_istore_n (L' := [(1, vI (x8)), (0, vR 56)]) hX dX10_sum_33 rfl hnl (by decide) rfl ?_
          refine j_aload_n hX 1 dX10_sum_34 rfl rfl ?_
          refine j_dup hX dX10_sum_35 rfl ?_
          refine j_getI (k := 19) hX hE cbX10 ty56 pc56 (by decide) rfl wd1159 rfl dX10_sum_36 ?_
          refine j_iconst hX dX10_sum_39 (rc rfl) ?_
          refine j_iadd hX dX10_sum_40 ?_
          refine j_putI (k := 19) hX hE cbX10 ty56 pc56 (by decide) rfl wd1159 rfl (Or.inl rfl) rfl dX10_sum_41 ?_
          obtain ⟨S9, hx, h⟩ := ap_s h
          rw [← hx]
          clear hx
          refine j_aload_n hX 1 dX10_sum_44 rfl rfl ?_
          obtain ⟨S10, h1, h⟩ := bs h
          refine j_callVV hX mwX10_product miX10_product wd1421 cbX10 ty56 hyX10_product (by omega) (by decide) ⟨Nat.zero_le _, Nat.zero_le _⟩ dX10_sum_45 (s_X10_product hfl hdd hE hO h1) npX10_product rfl (Nat.le_of_ble_eq_true rfl) ?_
          refine j_aload_n hX 1 dX10_sum_48 rfl rfl ?_
          refine j_iload_n hX 0 dX10_sum_49 rfl rfl ?_
          refine j_iconst hX dX10_sum_50 (rc rfl) ?_
          obtain ⟨S11, h1, h⟩ := bs h
          refine j_callVV hX mwX10_addStep miX10_addStep wd1436 cbX10 ty56 hyX10_addStep (by omega) (by decide) ⟨Nat.zero_le _, Nat.zero_le _⟩ dX10_sum_51 (s_X10_addStep hfl hE h1) npX10_addStep rfl (Nat.le_of_ble_eq_true rfl) ?_
          refine j_goto hX (tgt := 4) dX10_sum_54 (by decide) ?_
          refine j_sub [1] rfl ?_
          exact ih _ h
theorem s_X10_sum {g : G0} {B : Nat → Nat} {n : Nat} {E : Mem → Mem}  {S : Mem} {S' : Mem} (hfl : g.2.2.2.2 = true) {rO : Mem → Option Mem} {dd : Nat} (hdd : 6 ≤ dd) (hE : Lens E PM) (hO : ∀  (S : Mem) (S1 : Mem), rO  S = some S1 → Cn g B n yX10_operand cX10_operand 2 none dd [vR 56] (E S) (QcV g B n (E S1))) (h : g_X10_sum rO S = some S') : Cn g B n yX10_sum cX10_sum 2 none (dd + 2) [vR 56] (E S) (QcV g B n (E S')) := by
  refine Cn.of (by decide +kernel) (Nat.le_of_ble_eq_true rfl) (fun X hg hnl hX hR => ?_)
  subst hg
  have hX : Ctx X cX10_sum "TelegramFeelingsModel" (dd + 2) := hX
  unfold g_X10_sum at h
  show JW X B n 0 0 0 [(0, vR 56)] [] (E S) (QM X (QcV (gX X) B n (E S')))
  refine j_aload_n hX 0 dX10_sum_0 rfl rfl ?_
  obtain ⟨S1, h1, h⟩ := bs h
  refine j_callVV hX mwX10_product miX10_product wd1421 cbX10 ty56 hyX10_product (by omega) (by decide) ⟨Nat.zero_le _, Nat.zero_le _⟩ dX10_sum_1 (s_X10_product hfl hdd hE hO h1) npX10_product rfl (Nat.le_of_ble_eq_true rfl) ?_
  refine j_sub [0] rfl ?_
  refine sl_X10_sum_4 hdd hX hR hfl hnl hE hO  _ _ h
theorem s_X10_compared {g : G0} {B : Nat → Nat} {n : Nat} {E : Mem → Mem}  {S : Mem} {S' : Mem} (hfl : g.2.2.2.2 = true) {rO : Mem → Option Mem} {dd : Nat} (hdd : 6 ≤ dd) (hE : Lens E PM) (hO : ∀  (S : Mem) (S1 : Mem), rO  S = some S1 → Cn g B n yX10_operand cX10_operand 2 none dd [vR 56] (E S) (QcV g B n (E S1))) (h : g_X10_compared rO S = some S') : Cn g B n yX10_compared cX10_compared 2 none (dd + 3) [vR 56] (E S) (QcV g B n (E S')) := by
  refine Cn.of (by decide +kernel) (Nat.le_of_ble_eq_true rfl) (fun X hg hnl hX hR => ?_)
  subst hg
  have hX : Ctx X cX10_compared "TelegramFeelingsModel" (dd + 3) := hX
  unfold g_X10_compared at h
  show JW X B n 0 0 0 [(0, vR 56)] [] (E S) (QM X (QcV (gX X) B n (E S')))
  refine j_aload_n hX 0 dX10_compared_0 rfl rfl ?_
  obtain ⟨S1, h1, h⟩ := bs h
  refine j_callVV hX mwX10_sum miX10_sum wd1417 cbX10 ty56 hyX10_sum (by omega) (by decide) ⟨Nat.zero_le _, Nat.zero_le _⟩ dX10_compared_1 (s_X10_sum hfl hdd hE hO h1) npX10_sum rfl (Nat.le_of_ble_eq_true rfl) ?_
  refine j_aload_n hX 0 dX10_compared_4 rfl rfl ?_
  obtain ⟨x2, h1, h⟩ := bs h
  refine j_callVI hX mwX10_look miX10_look wd1429 cbX10 ty56 hyX10_look (by omega) (by decide) ⟨Nat.zero_le _, Nat.zero_le _⟩ dX10_compared_5 (s_X10_look hfl hE h1) npX10_look rfl (Nat.le_of_ble_eq_true rfl) ?_
  refine j_istore_n (L' := [(1, vI (x2)), (0, vR 56)]) hX dX10_compared_8 rfl hnl (by decide) rfl ?_
  refine j_aload_n hX 1 dX10_compared_9 rfl rfl ?_
  refine j_getI (k := 20) hX hE cbX10 ty56 pc56 (by decide) rfl wd1160 rfl dX10_compared_10 ?_
  refine j_if_ge hX (tgt := 34) dX10_compared_13 (by decide) (fun hc => ?_) (fun hc => ?_)
  · rw [if_pos hc] at h
    cases h
    exact j_vret hX hR dX10_compared_34
  · rw [if_neg hc] at h
    refine j_iload_n hX 0 dX10_compared_16 rfl rfl ?_
    refine j_bipush hX dX10_compared_17 (rc rfl) (by decide) ?_
    refine j_icmp_eq hX (tgt := 35) dX10_compared_19 (by decide) (fun hc => ?_) (fun hc => ?_)
    · rw [if_pos hc] at h
      refine j_aload_n hX 1 dX10_compared_35 rfl rfl ?_
      refine j_dup hX dX10_compared_36 rfl ?_
      refine j_getI (k := 19) hX hE cbX10 ty56 pc56 (by decide) rfl wd1159 rfl dX10_compared_37 ?_
      refine j_iconst hX dX10_compared_40 (rc rfl) ?_
      refine j_iadd hX dX10_compared_41 ?_
      refine j_putI (k := 19) hX hE cbX10 ty56 pc56 (by decide) rfl wd1159 rfl (Or.inl rfl) rfl dX10_compared_42 ?_
      obtain ⟨S3, hx, h⟩ := ap_s h
      rw [← hx]
      clear hx
      refine j_aload_n hX 1 dX10_compared_45 rfl rfl ?_
      obtain ⟨S4, h1, h⟩ := bs h
      refine j_callVV hX mwX10_sum miX10_sum wd1417 cbX10 ty56 hyX10_sum (by omega) (by decide) ⟨Nat.zero_le _, Nat.zero_le _⟩ dX10_compared_46 (s_X10_sum hfl hdd hE hO h1) npX10_sum rfl (Nat.le_of_ble_eq_true rfl) ?_
      refine j_aload_n hX 1 dX10_compared_49 rfl rfl ?_
      refine j_iload_n hX 0 dX10_compared_50 rfl rfl ?_
      refine j_iconst hX dX10_compared_51 (rc rfl) ?_
      obtain ⟨S5, h1, h⟩ := bs h
      refine j_callVV hX mwX10_addStep miX10_addStep wd1436 cbX10 ty56 hyX10_addStep (by omega) (by decide) ⟨Nat.zero_le _, Nat.zero_le _⟩ dX10_compared_52 (s_X10_addStep hfl hE h1) npX10_addStep rfl (Nat.le_of_ble_eq_true rfl) ?_
      cases h
      exact j_vret hX hR dX10_compared_55
    · rw [if_neg hc] at h
      refine j_iload_n hX 0 dX10_compared_22 rfl rfl ?_
      refine j_bipush hX dX10_compared_23 (rc rfl) (by decide) ?_
      refine j_icmp_eq hX (tgt := 35) dX10_compared_25 (by decide) (fun hc => ?_) (fun hc => ?_)
      · rw [if_pos hc] at h
        refine j_aload_n hX 1 dX10_compared_35 rfl rfl ?_
        refine j_dup hX dX10_compared_36 rfl ?_
        refine j_getI (k := 19) hX hE cbX10 ty56 pc56 (by decide) rfl wd1159 rfl dX10_compared_37 ?_
        refine j_iconst hX dX10_compared_40 (rc rfl) ?_
        refine j_iadd hX dX10_compared_41 ?_
        refine j_putI (k := 19) hX hE cbX10 ty56 pc56 (by decide) rfl wd1159 rfl (Or.inl rfl) rfl dX10_compared_42 ?_
        obtain ⟨S6, hx, h⟩ := ap_s h
        rw [← hx]
        clear hx
        refine j_aload_n hX 1 dX10_compared_45 rfl rfl ?_
        obtain ⟨S7, h1, h⟩ := bs h
        refine j_callVV hX mwX10_sum miX10_sum wd1417 cbX10 ty56 hyX10_sum (by omega) (by decide) ⟨Nat.zero_le _, Nat.zero_le _⟩ dX10_compared_46 (s_X10_sum hfl hdd hE hO h1) npX10_sum rfl (Nat.le_of_ble_eq_true rfl) ?_
        refine j_aload_n hX 1 dX10_compared_49 rfl rfl ?_
        refine j_iload_n hX 0 dX10_compared_50 rfl rfl ?_
        refine j_iconst hX dX10_compared_51 (rc rfl) ?_
        obtain ⟨S8, h1, h⟩ := bs h
        refine j_callVV hX mwX10_addStep miX10_addStep wd1436 cbX10 ty56 hyX10_addStep (by omega) (by decide) ⟨Nat.zero_le _, Nat.zero_le _⟩ dX10_compared_52 (s_X10_addStep hfl hE h1) npX10_addStep rfl (Nat.le_of_ble_eq_true rfl) ?_
        cases h
        exact j_vret hX hR dX10_compared_55
      · rw [if_neg hc] at h
        refine j_iload_n hX 0 dX10_compared_28 rfl rfl ?_
        refine j_bipush hX dX10_compared_29 (rc rfl) (by decide) ?_
        refine j_icmp_eq hX (tgt := 35) dX10_compared_31 (by decide) (fun hc => ?_) (fun hc => ?_)
        · rw [if_pos hc] at h
          refine j_aload_n hX 1 dX10_compared_35 rfl rfl ?_
          refine j_dup hX dX10_compared_36 rfl ?_
          refine j_getI (k := 19) hX hE cbX10 ty56 pc56 (by decide) rfl wd1159 rfl dX10_compared_37 ?_
          refine j_iconst hX dX10_compared_40 (rc rfl) ?_
          refine j_iadd hX dX10_compared_41 ?_
          refine j_putI (k := 19) hX hE cbX10 ty56 pc56 (by decide) rfl wd1159 rfl (Or.inl rfl) rfl dX10_compared_42 ?_
          obtain ⟨S9, hx, h⟩ := ap_s h
          rw [← hx]
          clear hx
          refine j_aload_n hX 1 dX10_compared_45 rfl rfl ?_
          obtain ⟨S10, h1, h⟩ := bs h
          refine j_callVV hX mwX10_sum miX10_sum wd1417 cbX10 ty56 hyX10_sum (by omega) (by decide) ⟨Nat.zero_le _, Nat.zero_le _⟩ dX10_compared_46 (s_X10_sum hfl hdd hE hO h1) npX10_sum rfl (Nat.le_of_ble_eq_true rfl) ?_
          refine j_aload_n hX 1 dX10_compared_49 rfl rfl ?_
          refine j_iload_n hX 0 dX10_compared_50 rfl rfl ?_
          refine j_iconst hX dX10_compared_51 (rc rfl) ?_
          obtain ⟨S11, h1, h⟩ := bs h
          refine j_callVV hX mwX10_addStep miX10_addStep wd1436 cbX10 ty56 hyX10_addStep (by omega) (by decide) ⟨Nat.zero_le _, Nat.zero_le _⟩ dX10_compared_52 (s_X10_addStep hfl hE h1) npX10_addStep rfl (Nat.le_of_ble_eq_true rfl) ?_
          cases h
          exact j_vret hX hR dX10_compared_55
        · rw [if_neg hc] at h
          cases h
          exact j_vret hX hR dX10_compared_34
theorem sl_X10_both_4 {X : K0} {B : Nat → Nat} {n : Nat} {E : Mem → Mem} {S' : Mem} {rO : Mem → Option Mem} {dd : Nat} (hdd : 6 ≤ dd) (hX : Ctx X cX10_both "TelegramFeelingsModel" (dd + 4)) (hR : CR X none) (hfl : (gX X).2.2.2.2 = true) (hnl : X.2.2.2.2.2.2.2.2.2.2.2.2.2.2 = 1) (hE : Lens E PM) (hO : ∀  (S : Mem) (S1 : Mem), rO  S = some S1 → Cn (gX X) B n yX10_operand cX10_operand 2 none dd [vR 56] (E S) (QcV (gX X) B n (E S1)))    : ∀ (fu : Nat) (S : Mem), g_X10_both_L4 rO fu S = some S' → JW X B n 0 0 4 [(0, vR 56)] [] (E S) (QM X (QcV (gX X) B n (E S'))) := by
  intro fu
  induction fu with
  | zero =>
    intro S h
    rw [g_X10_both_L4] at h
    cases h
  | succ fu ih =>
    intro S h
    rw [g_X10_both_L4] at h
    refine j_aload_n hX 0 dX10_both_4 rfl rfl ?_
    refine j_getI (k := 20) hX hE cbX10 ty56 pc56 (by decide) rfl wd1160 rfl dX10_both_5 ?_
    refine j_if_ge hX (tgt := 44) dX10_both_8 (by decide) (fun hc => ?_) (fun hc => ?_)
    · rw [if_pos hc] at h
      cases h
      exact j_vret hX hR dX10_both_44
    · rw [if_neg hc] at h
      refine j_aload_n hX 0 dX10_both_11 rfl rfl ?_
      obtain ⟨x2, h1, h⟩ := bs h
      refine j_callVI hX mwX10_look miX10_look wd1429 cbX10 ty56 hyX10_look (by omega) (by decide) ⟨Nat.zero_le _, Nat.zero_le _⟩ dX10_both_12 (s_X10_look hfl hE h1) npX10_look rfl (Nat.le_of_ble_eq_true rfl) ?_
      refine j_bipush hX dX10_both_15 (rc rfl) (by decide) ?_
      refine j_icmp_ne hX (tgt := 44) dX10_both_17 (by decide) (fun hc => ?_) (fun hc => ?_)
      · rw [if_neg hc] at h
        cases h
        exact j_vret hX hR dX10_both_44
      · rw [if_pos hc] at h
        refine j_aload_n hX 0 dX10_both_20 rfl rfl ?_
        refine j_dup hX dX10_both_21 rfl ?_
        refine j_getI (k := 19) hX hE cbX10 ty56 pc56 (by decide) rfl wd1159 rfl dX10_both_22 ?_
        refine j_iconst hX dX10_both_25 (rc rfl) ?_
        refine j_iadd hX dX10_both_26 ?_
        refine j_putI (k := 19) hX hE cbX10 ty56 pc56 (by decide) rfl wd1159 rfl (Or.inl rfl) rfl dX10_both_27 ?_
        obtain ⟨S3, hx, h⟩ := ap_s h
        rw [← hx]
        clear hx
        refine j_aload_n hX 0 dX10_both_30 rfl rfl ?_
        obtain ⟨S4, h1, h⟩ := bs h
        refine j_callVV hX mwX10_compared miX10_compared wd1413 cbX10 ty56 hyX10_compared (by omega) (by decide) ⟨Nat.zero_le _, Nat.zero_le _⟩ dX10_both_31 (s_X10_compared hfl hdd hE hO h1) npX10_compared rfl (Nat.le_of_ble_eq_true rfl) ?_
        refine j_aload_n hX 0 dX10_both_34 rfl rfl ?_
        refine j_bipush hX dX10_both_35 (rc rfl) (by decide) ?_
        refine j_iconst hX dX10_both_37 (rc rfl) ?_
        obtain ⟨S5, h1, h⟩ := bs h
        refine j_callVV hX mwX10_addStep miX10_addStep wd1436 cbX10 ty56 hyX10_addStep (by omega) (by decide) ⟨Nat.zero_le _, Nat.zero_le _⟩ dX10_both_38 (s_X10_addStep hfl hE h1) npX10_addStep rfl (Nat.le_of_ble_eq_true rfl) ?_
        refine j_goto hX (tgt := 4) dX10_both_41 (by decide) ?_
        refine j_sub [0] rfl ?_
        exact ih _ h
theorem s_X10_both {g : G0} {B : Nat → Nat} {n : Nat} {E : Mem → Mem}  {S : Mem} {S' : Mem} (hfl : g.2.2.2.2 = true) {rO : Mem → Option Mem} {dd : Nat} (hdd : 6 ≤ dd) (hE : Lens E PM) (hO : ∀  (S : Mem) (S1 : Mem), rO  S = some S1 → Cn g B n yX10_operand cX10_operand 2 none dd [vR 56] (E S) (QcV g B n (E S1))) (h : g_X10_both rO S = some S') : Cn g B n yX10_both cX10_both 1 none (dd + 4) [vR 56] (E S) (QcV g B n (E S')) := by
  refine Cn.of (by decide +kernel) (Nat.le_of_ble_eq_true rfl) (fun X hg hnl hX hR => ?_)
  subst hg
  have hX : Ctx X cX10_both "TelegramFeelingsModel" (dd + 4) := hX
  unfold g_X10_both at h
  show JW X B n 0 0 0 [(0, vR 56)] [] (E S) (QM X (QcV (gX X) B n (E S')))
  refine j_aload_n hX 0 dX10_both_0 rfl rfl ?_
  obtain ⟨S1, h1, h⟩ := bs h
  refine j_callVV hX mwX10_compared miX10_compared wd1413 cbX10 ty56 hyX10_compared (by omega) (by decide) ⟨Nat.zero_le _, Nat.zero_le _⟩ dX10_both_1 (s_X10_compared hfl hdd hE hO h1) npX10_compared rfl (Nat.le_of_ble_eq_true rfl) ?_
  refine j_sub [0] rfl ?_
  refine sl_X10_both_4 hdd hX hR hfl hnl hE hO  _ _ h
theorem sl_X10_either_4 {X : K0} {B : Nat → Nat} {n : Nat} {E : Mem → Mem} {S' : Mem} {rO : Mem → Option Mem} {dd : Nat} (hdd : 6 ≤ dd) (hX : Ctx X cX10_either "TelegramFeelingsModel" (dd + 5)) (hR : CR X none) (hfl : (gX X).2.2.2.2 = true) (hnl : X.2.2.2.2.2.2.2.2.2.2.2.2.2.2 = 1) (hE : Lens E PM) (hO : ∀  (S : Mem) (S1 : Mem), rO  S = some S1 → Cn (gX X) B n yX10_operand cX10_operand 2 none dd [vR 56] (E S) (QcV (gX X) B n (E S1)))    : ∀ (fu : Nat) (S : Mem), g_X10_either_L4 rO fu S = some S' → JW X B n 0 0 4 [(0, vR 56)] [] (E S) (QM X (QcV (gX X) B n (E S'))) := by
  intro fu
  induction fu with
  | zero =>
    intro S h
    rw [g_X10_either_L4] at h
    cases h
  | succ fu ih =>
    intro S h
    rw [g_X10_either_L4] at h
    refine j_aload_n hX 0 dX10_either_4 rfl rfl ?_
    refine j_getI (k := 20) hX hE cbX10 ty56 pc56 (by decide) rfl wd1160 rfl dX10_either_5 ?_
    refine j_if_ge hX (tgt := 44) dX10_either_8 (by decide) (fun hc => ?_) (fun hc => ?_)
    · rw [if_pos hc] at h
      cases h
      exact j_vret hX hR dX10_either_44
    · rw [if_neg hc] at h
      refine j_aload_n hX 0 dX10_either_11 rfl rfl ?_
      obtain ⟨x2, h1, h⟩ := bs h
      refine j_callVI hX mwX10_look miX10_look wd1429 cbX10 ty56 hyX10_look (by omega) (by decide) ⟨Nat.zero_le _, Nat.zero_le _⟩ dX10_either_12 (s_X10_look hfl hE h1) npX10_look rfl (Nat.le_of_ble_eq_true rfl) ?_
      refine j_bipush hX dX10_either_15 (rc rfl) (by decide) ?_
      refine j_icmp_ne hX (tgt := 44) dX10_either_17 (by decide) (fun hc => ?_) (fun hc => ?_)
      · rw [if_neg hc] at h
        cases h
        exact j_vret hX hR dX10_either_44
      · rw [if_pos hc] at h
        refine j_aload_n hX 0 dX10_either_20 rfl rfl ?_
        refine j_dup hX dX10_either_21 rfl ?_
        refine j_getI (k := 19) hX hE cbX10 ty56 pc56 (by decide) rfl wd1159 rfl dX10_either_22 ?_
        refine j_iconst hX dX10_either_25 (rc rfl) ?_
        refine j_iadd hX dX10_either_26 ?_
        refine j_putI (k := 19) hX hE cbX10 ty56 pc56 (by decide) rfl wd1159 rfl (Or.inl rfl) rfl dX10_either_27 ?_
        obtain ⟨S3, hx, h⟩ := ap_s h
        rw [← hx]
        clear hx
        refine j_aload_n hX 0 dX10_either_30 rfl rfl ?_
        obtain ⟨S4, h1, h⟩ := bs h
        refine j_callVV hX mwX10_both miX10_both wd1409 cbX10 ty56 hyX10_both (by omega) (by decide) ⟨Nat.zero_le _, Nat.zero_le _⟩ dX10_either_31 (s_X10_both hfl hdd hE hO h1) npX10_both rfl (Nat.le_of_ble_eq_true rfl) ?_
        refine j_aload_n hX 0 dX10_either_34 rfl rfl ?_
        refine j_bipush hX dX10_either_35 (rc rfl) (by decide) ?_
        refine j_iconst hX dX10_either_37 (rc rfl) ?_
        obtain ⟨S5, h1, h⟩ := bs h
        refine j_callVV hX mwX10_addStep miX10_addStep wd1436 cbX10 ty56 hyX10_addStep (by omega) (by decide) ⟨Nat.zero_le _, Nat.zero_le _⟩ dX10_either_38 (s_X10_addStep hfl hE h1) npX10_addStep rfl (Nat.le_of_ble_eq_true rfl) ?_
        refine j_goto hX (tgt := 4) dX10_either_41 (by decide) ?_
        refine j_sub [0] rfl ?_
        exact ih _ h
theorem s_X10_either {g : G0} {B : Nat → Nat} {n : Nat} {E : Mem → Mem}  {S : Mem} {S' : Mem} (hfl : g.2.2.2.2 = true) {rO : Mem → Option Mem} {dd : Nat} (hdd : 6 ≤ dd) (hE : Lens E PM) (hO : ∀  (S : Mem) (S1 : Mem), rO  S = some S1 → Cn g B n yX10_operand cX10_operand 2 none dd [vR 56] (E S) (QcV g B n (E S1))) (h : g_X10_either rO S = some S') : Cn g B n yX10_either cX10_either 1 none (dd + 5) [vR 56] (E S) (QcV g B n (E S')) := by
  refine Cn.of (by decide +kernel) (Nat.le_of_ble_eq_true rfl) (fun X hg hnl hX hR => ?_)
  subst hg
  have hX : Ctx X cX10_either "TelegramFeelingsModel" (dd + 5) := hX
  unfold g_X10_either at h
  show JW X B n 0 0 0 [(0, vR 56)] [] (E S) (QM X (QcV (gX X) B n (E S')))
  refine j_aload_n hX 0 dX10_either_0 rfl rfl ?_
  obtain ⟨S1, h1, h⟩ := bs h
  refine j_callVV hX mwX10_both miX10_both wd1409 cbX10 ty56 hyX10_both (by omega) (by decide) ⟨Nat.zero_le _, Nat.zero_le _⟩ dX10_either_1 (s_X10_both hfl hdd hE hO h1) npX10_both rfl (Nat.le_of_ble_eq_true rfl) ?_
  refine j_sub [0] rfl ?_
  refine sl_X10_either_4 hdd hX hR hfl hnl hE hO  _ _ h
theorem sj_X10_operand_46 {X : K0} {B : Nat → Nat} {n : Nat} {E : Mem → Mem} {S' : Mem} {rO : Mem → Option Mem} {dd : Nat} (hdd : 6 ≤ dd) (hX : Ctx X cX10_operand "TelegramFeelingsModel" (dd + 6)) (hR : CR X none) (hfl : (gX X).2.2.2.2 = true) (hnl : X.2.2.2.2.2.2.2.2.2.2.2.2.2.2 = 2) (hE : Lens E PM) (hO : ∀  (S : Mem) (S1 : Mem), rO  S = some S1 → Cn (gX X) B n yX10_operand cX10_operand 2 none dd [vR 56] (E S) (QcV (gX X) B n (E S1)))   {v1 : Int} {S : Mem} (h : g_X10_operand_J46 rO v1 S = some S') : JW X B n 0 0 46 [(0, vR 56), (1, vI (v1))] [] (E S) (QM X (QcV (gX X) B n (E S'))) := by
  unfold g_X10_operand_J46 at h
  refine j_aload_n hX 0 dX10_operand_46 rfl rfl ?_
  obtain ⟨x3, S2, h1, h⟩ := bd2_s h
  refine j_callVI hX mwX10_opens miX10_opens wd1440 cbX10 ty56 hyX10_opens (by omega) (by decide) ⟨Nat.zero_le _, Nat.zero_le _⟩ dX10_operand_47 (s_X10_opens hfl hE h1) npX10_opens rfl (Nat.le_of_ble_eq_true rfl) ?_
  refine j_if_ne hX (tgt := 54) dX10_operand_50 (by decide) (fun hc => ?_) (fun hc => ?_)
  · rw [if_neg hc] at h
    refine j_aload_n hX 0 dX10_operand_54 rfl rfl ?_
    obtain ⟨S4, h1, h⟩ := bs h
    refine j_callVV hX mwX10_operand miX10_operand wd1425 cbX10 ty56 hyX10_operand (by omega) (by decide) ⟨Nat.zero_le _, Nat.zero_le _⟩ dX10_operand_55 (hO _ _ h1) npX10_operand rfl (Nat.le_of_ble_eq_true rfl) ?_
    refine j_aload_n hX 0 dX10_operand_58 rfl rfl ?_
    refine j_dup hX dX10_operand_59 rfl ?_
    refine j_getI (k := 21) hX hE cbX10 ty56 pc56 (by decide) rfl wd1161 rfl dX10_operand_60 ?_
    refine j_iconst hX dX10_operand_63 (rc rfl) ?_
    refine j_isub hX dX10_operand_64 ?_
    refine j_putI (k := 21) hX hE cbX10 ty56 pc56 (by decide) rfl wd1161 rfl (Or.inl rfl) rfl dX10_operand_65 ?_
    obtain ⟨S5, hx, h⟩ := ap_s h
    rw [← hx]
    clear hx
    refine j_aload_n hX 0 dX10_operand_68 rfl rfl ?_
    refine j_iload_n hX 1 dX10_operand_69 rfl rfl ?_
    refine j_bipush hX dX10_operand_70 (rc rfl) (by decide) ?_
    refine j_icmp_ne hX (tgt := 79) dX10_operand_72 (by decide) (fun hc => ?_) (fun hc => ?_)
    · rw [if_neg hc] at h
      refine j_iconst hX dX10_operand_79 (rc rfl) ?_
      refine j_iconst hX dX10_operand_80 (rc rfl) ?_
      obtain ⟨S6, h1, h⟩ := bs h
      refine j_callVV hX mwX10_addStep miX10_addStep wd1436 cbX10 ty56 hyX10_addStep (by omega) (by decide) ⟨Nat.zero_le _, Nat.zero_le _⟩ dX10_operand_81 (s_X10_addStep hfl hE h1) npX10_addStep rfl (Nat.le_of_ble_eq_true rfl) ?_
      refine j_goto hX (tgt := 154) dX10_operand_84 (by decide) ?_
      cases h
      exact j_vret hX hR dX10_operand_154
    · rw [if_pos hc] at h
      refine j_iconst hX dX10_operand_75 (rc rfl) ?_
      refine j_goto hX (tgt := 80) dX10_operand_76 (by decide) ?_
      refine j_iconst hX dX10_operand_80 (rc rfl) ?_
      obtain ⟨S7, h1, h⟩ := bs h
      refine j_callVV hX mwX10_addStep miX10_addStep wd1436 cbX10 ty56 hyX10_addStep (by omega) (by decide) ⟨Nat.zero_le _, Nat.zero_le _⟩ dX10_operand_81 (s_X10_addStep hfl hE h1) npX10_addStep rfl (Nat.le_of_ble_eq_true rfl) ?_
      refine j_goto hX (tgt := 154) dX10_operand_84 (by decide) ?_
      cases h
      exact j_vret hX hR dX10_operand_154
  · rw [if_pos hc] at h
    cases h
    exact j_vret hX hR dX10_operand_53
theorem s_X10_operand_B {g : G0} {B : Nat → Nat} {n : Nat} {E : Mem → Mem}  {S : Mem} {S' : Mem} (hfl : g.2.2.2.2 = true) {rO : Mem → Option Mem} {dd : Nat} (hdd : 6 ≤ dd) (hE : Lens E PM) (hO : ∀  (S : Mem) (S1 : Mem), rO  S = some S1 → Cn g B n yX10_operand cX10_operand 2 none dd [vR 56] (E S) (QcV g B n (E S1))) (h : g_X10_operand_B rO S = some S') : Cn g B n yX10_operand cX10_operand 2 none (dd + 6) [vR 56] (E S) (QcV g B n (E S')) := by
  refine Cn.of (by decide +kernel) (Nat.le_of_ble_eq_true rfl) (fun X hg hnl hX hR => ?_)
  subst hg
  have hX : Ctx X cX10_operand "TelegramFeelingsModel" (dd + 6) := hX
  unfold g_X10_operand_B at h
  show JW X B n 0 0 0 [(0, vR 56)] [] (E S) (QM X (QcV (gX X) B n (E S')))
  refine j_aload_n hX 0 dX10_operand_0 rfl rfl ?_
  obtain ⟨x1, h1, h⟩ := bs h
  refine j_callVI hX mwX10_look miX10_look wd1429 cbX10 ty56 hyX10_look (by omega) (by decide) ⟨Nat.zero_le _, Nat.zero_le _⟩ dX10_operand_1 (s_X10_look hfl hE h1) npX10_look rfl (Nat.le_of_ble_eq_true rfl) ?_
  refine j_istore_n (L' := [(1, vI (x1)), (0, vR 56)]) hX dX10_operand_4 rfl hnl (by decide) rfl ?_
  refine j_iload_n hX 0 dX10_operand_5 rfl rfl ?_
  refine j_callSI hX mwX10_nameOf msX10_nameOf wd1433 hyX10_nameOf (by omega) (by decide) ⟨Nat.zero_le _, Nat.zero_le _⟩ dX10_operand_6 (s_X10_nameOf hfl rfl) npX10_nameOf rfl (Nat.le_of_ble_eq_true rfl) ?_
  refine j_if_lt hX (tgt := 34) dX10_operand_9 (by decide) (fun hc => ?_) (fun hc => ?_)
  · rw [if_pos hc] at h
    refine j_iload_n hX 0 dX10_operand_34 rfl rfl ?_
    refine j_bipush hX dX10_operand_35 (rc rfl) (by decide) ?_
    refine j_icmp_eq hX (tgt := 46) dX10_operand_37 (by decide) (fun hc => ?_) (fun hc => ?_)
    · rw [if_pos hc] at h
      refine j_sub [1, 0] rfl ?_
      exact sj_X10_operand_46 hdd hX hR hfl hnl hE hO  h
    · rw [if_neg hc] at h
      refine j_iload_n hX 0 dX10_operand_40 rfl rfl ?_
      refine j_bipush hX dX10_operand_41 (rc rfl) (by decide) ?_
      refine j_icmp_ne hX (tgt := 87) dX10_operand_43 (by decide) (fun hc => ?_) (fun hc => ?_)
      · rw [if_neg hc] at h
        refine j_iload_n hX 0 dX10_operand_87 rfl rfl ?_
        refine j_bipush hX dX10_operand_88 (rc rfl) (by decide) ?_
        refine j_icmp_ne hX (tgt := 150) dX10_operand_90 (by decide) (fun hc => ?_) (fun hc => ?_)
        · rw [if_neg hc] at h
          refine j_aload_n hX 1 dX10_operand_150 rfl rfl ?_
          obtain ⟨S8, h1, h⟩ := bs h
          refine j_callVV hX mwX10_figure miX10_figure wd1448 cbX10 ty56 hyX10_figure (by omega) (by decide) ⟨Nat.zero_le _, Nat.zero_le _⟩ dX10_operand_151 (s_X10_figure hfl hE h1) npX10_figure rfl (Nat.le_of_ble_eq_true rfl) ?_
          cases h
          exact j_vret hX hR dX10_operand_154
        · rw [if_pos hc] at h
          refine j_aload_n hX 1 dX10_operand_93 rfl rfl ?_
          obtain ⟨x10, S9, h1, h⟩ := bd2_s h
          refine j_callVI hX mwX10_opens miX10_opens wd1440 cbX10 ty56 hyX10_opens (by omega) (by decide) ⟨Nat.zero_le _, Nat.zero_le _⟩ dX10_operand_94 (s_X10_opens hfl hE h1) npX10_opens rfl (Nat.le_of_ble_eq_true rfl) ?_
          refine j_if_ne hX (tgt := 101) dX10_operand_97 (by decide) (fun hc => ?_) (fun hc => ?_)
          · rw [if_neg hc] at h
            refine j_aload_n hX 1 dX10_operand_101 rfl rfl ?_
            obtain ⟨S11, h1, h⟩ := bs h
            refine j_callVV hX mwX10_either miX10_either wd1405 cbX10 ty56 hyX10_either (by omega) (by decide) ⟨Nat.zero_le _, Nat.zero_le _⟩ dX10_operand_102 (s_X10_either hfl hdd hE hO h1) npX10_either rfl (Nat.le_of_ble_eq_true rfl) ?_
            refine j_aload_n hX 1 dX10_operand_105 rfl rfl ?_
            refine j_getI (k := 20) hX hE cbX10 ty56 pc56 (by decide) rfl wd1160 rfl dX10_operand_106 ?_
            refine j_if_lt hX (tgt := 113) dX10_operand_109 (by decide) (fun hc => ?_) (fun hc => ?_)
            · rw [if_pos hc] at h
              refine j_aload_n hX 1 dX10_operand_113 rfl rfl ?_
              obtain ⟨x12, h1, h⟩ := bs h
              refine j_callVI hX mwX10_look miX10_look wd1429 cbX10 ty56 hyX10_look (by omega) (by decide) ⟨Nat.zero_le _, Nat.zero_le _⟩ dX10_operand_114 (s_X10_look hfl hE h1) npX10_look rfl (Nat.le_of_ble_eq_true rfl) ?_
              refine j_bipush hX dX10_operand_117 (rc rfl) (by decide) ?_
              refine j_icmp_eq hX (tgt := 127) dX10_operand_119 (by decide) (fun hc => ?_) (fun hc => ?_)
              · rw [if_pos hc] at h
                refine j_aload_n hX 1 dX10_operand_127 rfl rfl ?_
                refine j_dup hX dX10_operand_128 rfl ?_
                refine j_getI (k := 19) hX hE cbX10 ty56 pc56 (by decide) rfl wd1159 rfl dX10_operand_129 ?_
                refine j_iconst hX dX10_operand_132 (rc rfl) ?_
                refine j_iadd hX dX10_operand_133 ?_
                refine j_putI (k := 19) hX hE cbX10 ty56 pc56 (by decide) rfl wd1159 rfl (Or.inl rfl) rfl dX10_operand_134 ?_
                obtain ⟨S13, hx, h⟩ := ap_s h
                rw [← hx]
                clear hx
                refine j_aload_n hX 1 dX10_operand_137 rfl rfl ?_
                refine j_dup hX dX10_operand_138 rfl ?_
                refine j_getI (k := 21) hX hE cbX10 ty56 pc56 (by decide) rfl wd1161 rfl dX10_operand_139 ?_
                refine j_iconst hX dX10_operand_142 (rc rfl) ?_
                refine j_isub hX dX10_operand_143 ?_
                refine j_putI (k := 21) hX hE cbX10 ty56 pc56 (by decide) rfl wd1161 rfl (Or.inl rfl) rfl dX10_operand_144 ?_
                obtain ⟨S14, hx, h⟩ := ap_s h
                rw [← hx]
                clear hx
                refine j_goto hX (tgt := 154) dX10_operand_147 (by decide) ?_
                cases h
                exact j_vret hX hR dX10_operand_154
              · rw [if_neg hc] at h
                refine j_aload_n hX 1 dX10_operand_122 rfl rfl ?_
                obtain ⟨S15, h1, h⟩ := bs h
                refine j_callVV hX mwX10_wrong miX10_wrong wd1444 cbX10 ty56 hyX10_wrong (by omega) (by decide) ⟨Nat.zero_le _, Nat.zero_le _⟩ dX10_operand_123 (s_X10_wrong hfl hE h1) npX10_wrong rfl (Nat.le_of_ble_eq_true rfl) ?_
                cases h
                exact j_vret hX hR dX10_operand_126
            · rw [if_neg hc] at h
              cases h
              exact j_vret hX hR dX10_operand_112
          · rw [if_pos hc] at h
            cases h
            exact j_vret hX hR dX10_operand_100
      · rw [if_pos hc] at h
        refine j_sub [1, 0] rfl ?_
        exact sj_X10_operand_46 hdd hX hR hfl hnl hE hO  h
  · rw [if_neg hc] at h
    refine j_aload_n hX 1 dX10_operand_12 rfl rfl ?_
    refine j_iconst hX dX10_operand_13 (rc rfl) ?_
    refine j_iload_n hX 0 dX10_operand_14 rfl rfl ?_
    refine j_callSI hX mwX10_nameOf msX10_nameOf wd1433 hyX10_nameOf (by omega) (by decide) ⟨Nat.zero_le _, Nat.zero_le _⟩ dX10_operand_15 (s_X10_nameOf hfl rfl) npX10_nameOf rfl (Nat.le_of_ble_eq_true rfl) ?_
    obtain ⟨S16, h1, h⟩ := bs h
    refine j_callVV hX mwX10_addStep miX10_addStep wd1436 cbX10 ty56 hyX10_addStep (by omega) (by decide) ⟨Nat.zero_le _, Nat.zero_le _⟩ dX10_operand_18 (s_X10_addStep hfl hE h1) npX10_addStep rfl (Nat.le_of_ble_eq_true rfl) ?_
    refine j_aload_n hX 1 dX10_operand_21 rfl rfl ?_
    refine j_dup hX dX10_operand_22 rfl ?_
    refine j_getI (k := 19) hX hE cbX10 ty56 pc56 (by decide) rfl wd1159 rfl dX10_operand_23 ?_
    refine j_iconst hX dX10_operand_26 (rc rfl) ?_
    refine j_iadd hX dX10_operand_27 ?_
    refine j_putI (k := 19) hX hE cbX10 ty56 pc56 (by decide) rfl wd1159 rfl (Or.inl rfl) rfl dX10_operand_28 ?_
    obtain ⟨S17, hx, h⟩ := ap_s h
    rw [← hx]
    clear hx
    refine j_goto hX (tgt := 154) dX10_operand_31 (by decide) ?_
    cases h
    exact j_vret hX hR dX10_operand_154
theorem s_X10_operand_R {g : G0} {B : Nat → Nat} {n : Nat} {E : Mem → Mem} (hfl : g.2.2.2.2 = true) (hE : Lens E PM) : ∀ (fu : Nat)  (S : Mem) (S1 : Mem), g_X10_operand fu  S = some S1 → Cn g B n yX10_operand cX10_operand 2 none (6 + 6 * fu) [vR 56] (E S) (QcV g B n (E S1)) := by
  intro fu
  induction fu with
  | zero => intro  S S1 h; cases h
  | succ fu ih =>
    intro  S S1 h
    exact s_X10_operand_B (dd := 6 + 6 * fu) hfl (by omega) hE ih h
theorem s_X10_operand {g : G0} {B : Nat → Nat} {n : Nat} {E : Mem → Mem}  {S : Mem} {S' : Mem} (hfl : g.2.2.2.2 = true) (hE : Lens E PM) (h : g_X10_operand 9  S = some S') : Cn g B n yX10_operand cX10_operand 2 none 60 [vR 56] (E S) (QcV g B n (E S')) := s_X10_operand_R hfl hE 9  _ _ h
theorem s_X10_line {g : G0} {B : Nat → Nat} {n : Nat} {E : Mem → Mem}  {S : Mem} {S' : Mem} (hfl : g.2.2.2.2 = true) (hE : Lens E PM) (h : g_X10_line S = some S') : Cn g B n yX10_line cX10_line 2 none 66 [vR 56] (E S) (QcV g B n (E S')) := by
  refine Cn.of (by decide +kernel) (Nat.le_of_ble_eq_true rfl) (fun X hg hnl hX hR => ?_)
  subst hg
  have hX : Ctx X cX10_line "TelegramFeelingsModel" 66 := hX
  unfold g_X10_line at h
  show JW X B n 0 0 0 [(0, vR 56)] [] (E S) (QM X (QcV (gX X) B n (E S')))
  refine j_bipush hX dX10_line_0 (rc rfl) (by decide) ?_
  refine j_aload_n hX 0 dX10_line_2 rfl rfl ?_
  refine j_getS (k := 25) hX hfl cbX10 ty56 (by decide) rfl wd1165 rfl sb56_25 dX10_line_3 ?_
  refine j_iconst hX dX10_line_6 (rc rfl) ?_
  refine j_iald hX hE ty72 pc72 (ldk_c (k := 1) (by decide)) dX10_line_7 ?_
  refine j_iadd hX dX10_line_8 ?_
  refine j_istore_n (L' := [(1, vI (w32 (61 + (gI S 72 1)))), (0, vR 56)]) hX dX10_line_9 rfl hnl (by decide) rfl ?_
  refine j_aload_n hX 1 dX10_line_10 rfl rfl ?_
  refine j_getS (k := 26) hX hfl cbX10 ty56 (by decide) rfl wd1166 rfl sb56_26 dX10_line_11 ?_
  refine j_iload_n hX 0 dX10_line_14 rfl rfl ?_
  refine j_aload_n hX 1 dX10_line_15 rfl rfl ?_
  refine j_getI (k := 22) hX hE cbX10 ty56 pc56 (by decide) rfl wd1162 rfl dX10_line_16 ?_
  refine j_i2s hX dX10_line_19 ?_
  obtain ⟨S2, hv, h⟩ := bs h
  refine j_sast hX hE ty73 pc73 hv dX10_line_20 ?_
  refine j_aload_n hX 1 dX10_line_21 rfl rfl ?_
  obtain ⟨S3, h1, h⟩ := bs h
  refine j_callVV hX mwX10_either miX10_either wd1405 cbX10 ty56 hyX10_either (by omega) (by decide) ⟨Nat.zero_le _, Nat.zero_le _⟩ dX10_line_22 (s_X10_either (dd := 60) hfl (by decide) hE (s_X10_operand_R hfl hE 9) h1) npX10_either rfl (Nat.le_of_ble_eq_true rfl) ?_
  refine j_aload_n hX 1 dX10_line_25 rfl rfl ?_
  refine j_getI (k := 20) hX hE cbX10 ty56 pc56 (by decide) rfl wd1160 rfl dX10_line_26 ?_
  refine j_if_ge hX (tgt := 66) dX10_line_29 (by decide) (fun hc => ?_) (fun hc => ?_)
  · rw [if_pos hc] at h
    refine j_aload_n hX 1 dX10_line_66 rfl rfl ?_
    refine j_getS (k := 27) hX hfl cbX10 ty56 (by decide) rfl wd1167 rfl sb56_27 dX10_line_67 ?_
    refine j_iload_n hX 0 dX10_line_70 rfl rfl ?_
    refine j_aload_n hX 1 dX10_line_71 rfl rfl ?_
    refine j_getI (k := 22) hX hE cbX10 ty56 pc56 (by decide) rfl wd1162 rfl dX10_line_72 ?_
    refine j_i2s hX dX10_line_75 ?_
    obtain ⟨S4, hv, h⟩ := bs h
    refine j_sast hX hE ty74 pc74 hv dX10_line_76 ?_
    refine j_aload_n hX 1 dX10_line_77 rfl rfl ?_
    refine j_getS (k := 25) hX hfl cbX10 ty56 (by decide) rfl wd1165 rfl sb56_25 dX10_line_78 ?_
    refine j_iconst hX dX10_line_81 (rc rfl) ?_
    refine j_dup2 hX dX10_line_82 rfl rfl ?_
    refine j_iald hX hE ty72 pc72 (ldk_c (k := 1) (by decide)) dX10_line_83 ?_
    refine j_iconst hX dX10_line_84 (rc rfl) ?_
    refine j_iadd hX dX10_line_85 ?_
    refine j_iast hX hE ty72 pc72 (stk_c (k := 1) (by decide)) dX10_line_86 ?_
    obtain ⟨S6, hx, h⟩ := ap_s h
    rw [← hx]
    clear hx
    cases h
    exact j_vret hX hR dX10_line_87
  · rw [if_neg hc] at h
    refine j_aload_n hX 1 dX10_line_32 rfl rfl ?_
    obtain ⟨x7, h1, h⟩ := bs h
    refine j_callVI hX mwX10_look miX10_look wd1429 cbX10 ty56 hyX10_look (by omega) (by decide) ⟨Nat.zero_le _, Nat.zero_le _⟩ dX10_line_33 (s_X10_look hfl hE h1) npX10_look rfl (Nat.le_of_ble_eq_true rfl) ?_
    refine j_bipush hX dX10_line_36 (rc rfl) (by decide) ?_
    refine j_icmp_ne hX (tgt := 66) dX10_line_38 (by decide) (fun hc => ?_) (fun hc => ?_)
    · rw [if_neg hc] at h
      refine j_aload_n hX 1 dX10_line_66 rfl rfl ?_
      refine j_getS (k := 27) hX hfl cbX10 ty56 (by decide) rfl wd1167 rfl sb56_27 dX10_line_67 ?_
      refine j_iload_n hX 0 dX10_line_70 rfl rfl ?_
      refine j_aload_n hX 1 dX10_line_71 rfl rfl ?_
      refine j_getI (k := 22) hX hE cbX10 ty56 pc56 (by decide) rfl wd1162 rfl dX10_line_72 ?_
      refine j_i2s hX dX10_line_75 ?_
      obtain ⟨S8, hv, h⟩ := bs h
      refine j_sast hX hE ty74 pc74 hv dX10_line_76 ?_
      refine j_aload_n hX 1 dX10_line_77 rfl rfl ?_
      refine j_getS (k := 25) hX hfl cbX10 ty56 (by decide) rfl wd1165 rfl sb56_25 dX10_line_78 ?_
      refine j_iconst hX dX10_line_81 (rc rfl) ?_
      refine j_dup2 hX dX10_line_82 rfl rfl ?_
      refine j_iald hX hE ty72 pc72 (ldk_c (k := 1) (by decide)) dX10_line_83 ?_
      refine j_iconst hX dX10_line_84 (rc rfl) ?_
      refine j_iadd hX dX10_line_85 ?_
      refine j_iast hX hE ty72 pc72 (stk_c (k := 1) (by decide)) dX10_line_86 ?_
      obtain ⟨S10, hx, h⟩ := ap_s h
      rw [← hx]
      clear hx
      cases h
      exact j_vret hX hR dX10_line_87
    · rw [if_pos hc] at h
      refine j_aload_n hX 1 dX10_line_41 rfl rfl ?_
      refine j_dup hX dX10_line_42 rfl ?_
      refine j_getI (k := 19) hX hE cbX10 ty56 pc56 (by decide) rfl wd1159 rfl dX10_line_43 ?_
      refine j_iconst hX dX10_line_46 (rc rfl) ?_
      refine j_iadd hX dX10_line_47 ?_
      refine j_putI (k := 19) hX hE cbX10 ty56 pc56 (by decide) rfl wd1159 rfl (Or.inl rfl) rfl dX10_line_48 ?_
      obtain ⟨S11, hx, h⟩ := ap_s h
      rw [← hx]
      clear hx
      refine j_aload_n hX 1 dX10_line_51 rfl rfl ?_
      refine j_getS (k := 26) hX hfl cbX10 ty56 (by decide) rfl wd1166 rfl sb56_26 dX10_line_52 ?_
      refine j_iload_n hX 0 dX10_line_55 rfl rfl ?_
      refine j_aload_n hX 1 dX10_line_56 rfl rfl ?_
      refine j_getI (k := 22) hX hE cbX10 ty56 pc56 (by decide) rfl wd1162 rfl dX10_line_57 ?_
      refine j_i2s hX dX10_line_60 ?_
      obtain ⟨S12, hv, h⟩ := bs h
      refine j_sast hX hE ty73 pc73 hv dX10_line_61 ?_
      refine j_aload_n hX 1 dX10_line_62 rfl rfl ?_
      obtain ⟨S13, h1, h⟩ := bs h
      refine j_callVV hX mwX10_either miX10_either wd1405 cbX10 ty56 hyX10_either (by omega) (by decide) ⟨Nat.zero_le _, Nat.zero_le _⟩ dX10_line_63 (s_X10_either (dd := 60) hfl (by decide) hE (s_X10_operand_R hfl hE 9) h1) npX10_either rfl (Nat.le_of_ble_eq_true rfl) ?_
      refine j_aload_n hX 1 dX10_line_66 rfl rfl ?_
      refine j_getS (k := 27) hX hfl cbX10 ty56 (by decide) rfl wd1167 rfl sb56_27 dX10_line_67 ?_
      refine j_iload_n hX 0 dX10_line_70 rfl rfl ?_
      refine j_aload_n hX 1 dX10_line_71 rfl rfl ?_
      refine j_getI (k := 22) hX hE cbX10 ty56 pc56 (by decide) rfl wd1162 rfl dX10_line_72 ?_
      refine j_i2s hX dX10_line_75 ?_
      obtain ⟨S14, hv, h⟩ := bs h
      refine j_sast hX hE ty74 pc74 hv dX10_line_76 ?_
      refine j_aload_n hX 1 dX10_line_77 rfl rfl ?_
      refine j_getS (k := 25) hX hfl cbX10 ty56 (by decide) rfl wd1165 rfl sb56_25 dX10_line_78 ?_
      refine j_iconst hX dX10_line_81 (rc rfl) ?_
      refine j_dup2 hX dX10_line_82 rfl rfl ?_
      refine j_iald hX hE ty72 pc72 (ldk_c (k := 1) (by decide)) dX10_line_83 ?_
      refine j_iconst hX dX10_line_84 (rc rfl) ?_
      refine j_iadd hX dX10_line_85 ?_
      refine j_iast hX hE ty72 pc72 (stk_c (k := 1) (by decide)) dX10_line_86 ?_
      obtain ⟨S16, hx, h⟩ := ap_s h
      rw [← hx]
      clear hx
      cases h
      exact j_vret hX hR dX10_line_87
theorem sl_X10_readText_31 {X : K0} {B : Nat → Nat} {n : Nat} {E : Mem → Mem} {r : Int} {S' : Mem} (hX : Ctx X cX10_readText "TelegramFeelingsModel" 67) (hR : CR X (some .int)) (hfl : (gX X).2.2.2.2 = true) (hnl : X.2.2.2.2.2.2.2.2.2.2.2.2.2.2 = 3) (hE : Lens E PM) {k64 : Mem → Option (Int × Mem)} {v1 : Int} (K64 : ∀ (S : Mem), k64 S = some (r, S') → JW X B n 0 0 64 [(0, vR 56), (1, vI (v1))] [] (E S) (QM X (QcI (gX X) B n r (E S')))) : ∀ (fu : Nat) (S : Mem), g_X10_readText_L31 k64 v1 fu S = some (r, S') → JW X B n 0 0 31 [(0, vR 56), (1, vI (v1))] [] (E S) (QM X (QcI (gX X) B n r (E S'))) := by
  intro fu
  induction fu with
  | zero =>
    intro S h
    rw [g_X10_readText_L31] at h
    cases h
  | succ fu ih =>
    intro S h
    rw [g_X10_readText_L31] at h
    refine j_aload_n hX 0 dX10_readText_31 rfl rfl ?_
    refine j_getI (k := 20) hX hE cbX10 ty56 pc56 (by decide) rfl wd1160 rfl dX10_readText_32 ?_
    refine j_if_ge hX (tgt := 64) dX10_readText_35 (by decide) (fun hc => ?_) (fun hc => ?_)
    · rw [if_pos hc] at h
      refine j_sub [0, 1] rfl ?_
      exact K64 _ h
    · rw [if_neg hc] at h
      refine j_aload_n hX 0 dX10_readText_38 rfl rfl ?_
      obtain ⟨x7, h1, h⟩ := bs h
      refine j_callVI hX mwX10_look miX10_look wd1429 cbX10 ty56 hyX10_look (by omega) (by decide) ⟨Nat.zero_le _, Nat.zero_le _⟩ dX10_readText_39 (s_X10_look hfl hE h1) npX10_look rfl (Nat.le_of_ble_eq_true rfl) ?_
      refine j_bipush hX dX10_readText_42 (rc rfl) (by decide) ?_
      refine j_icmp_ne hX (tgt := 64) dX10_readText_44 (by decide) (fun hc => ?_) (fun hc => ?_)
      · rw [if_neg hc] at h
        refine j_sub [0, 1] rfl ?_
        exact K64 _ h
      · rw [if_pos hc] at h
        refine j_aload_n hX 0 dX10_readText_47 rfl rfl ?_
        refine j_dup hX dX10_readText_48 rfl ?_
        refine j_getI (k := 19) hX hE cbX10 ty56 pc56 (by decide) rfl wd1159 rfl dX10_readText_49 ?_
        refine j_iconst hX dX10_readText_52 (rc rfl) ?_
        refine j_iadd hX dX10_readText_53 ?_
        refine j_putI (k := 19) hX hE cbX10 ty56 pc56 (by decide) rfl wd1159 rfl (Or.inl rfl) rfl dX10_readText_54 ?_
        obtain ⟨S8, hx, h⟩ := ap_s h
        rw [← hx]
        clear hx
        refine j_aload_n hX 0 dX10_readText_57 rfl rfl ?_
        obtain ⟨S9, h1, h⟩ := bs h
        refine j_callVV hX mwX10_line miX10_line wd1401 cbX10 ty56 hyX10_line (by omega) (by decide) ⟨Nat.zero_le _, Nat.zero_le _⟩ dX10_readText_58 (s_X10_line hfl hE h1) npX10_line rfl (Nat.le_of_ble_eq_true rfl) ?_
        refine j_goto hX (tgt := 31) dX10_readText_61 (by decide) ?_
        refine j_sub [0, 1] rfl ?_
        exact ih _ h
theorem sl_X10_readText_105 {X : K0} {B : Nat → Nat} {n : Nat} {E : Mem → Mem} {r : Int} {S' : Mem} (hX : Ctx X cX10_readText "TelegramFeelingsModel" 67) (hR : CR X (some .int)) (hfl : (gX X).2.2.2.2 = true) (hnl : X.2.2.2.2.2.2.2.2.2.2.2.2.2.2 = 3) (hE : Lens E PM) {k163 : Mem → Option (Int × Mem)} {v1 : Int} (K163 : ∀ (S : Mem), k163 S = some (r, S') → JW X B n 0 0 163 [(0, vR 56), (1, vI (v1))] [] (E S) (QM X (QcI (gX X) B n r (E S')))) : ∀ (fu : Nat) (v2 : Int) (S : Mem), g_X10_readText_L105 k163 v1 fu v2 S = some (r, S') → JW X B n 0 0 105 [(0, vR 56), (1, vI (v1)), (2, vI (v2))] [] (E S) (QM X (QcI (gX X) B n r (E S'))) := by
  intro fu
  induction fu with
  | zero =>
    intro v2 S h
    rw [g_X10_readText_L105] at h
    cases h
  | succ fu ih =>
    intro v2 S h
    rw [g_X10_readText_L105] at h
    refine j_iload_n hX 2 dX10_readText_105 rfl rfl ?_
    refine j_aload_n hX 0 dX10_readText_106 rfl rfl ?_
    refine j_getI (k := 22) hX hE cbX10 ty56 pc56 (by decide) rfl wd1162 rfl dX10_readText_107 ?_
    refine j_icmp_ge hX (tgt := 163) dX10_readText_110 (by decide) (fun hc => ?_) (fun hc => ?_)
    · rw [if_pos hc] at h
      refine j_sub [0, 1] rfl ?_
      exact K163 _ h
    · rw [if_neg hc] at h
      refine j_aload_n hX 0 dX10_readText_113 rfl rfl ?_
      refine j_getS (k := 23) hX hfl cbX10 ty56 (by decide) rfl wd1163 rfl sb56_23 dX10_readText_114 ?_
      refine j_sipush hX dX10_readText_117 (rc rfl) (by decide) ?_
      refine j_iload_n hX 1 dX10_readText_120 rfl rfl ?_
      refine j_imul hX dX10_readText_121 ?_
      refine j_iload_n hX 2 dX10_readText_122 rfl rfl ?_
      refine j_iadd hX dX10_readText_123 ?_
      refine j_aload_n hX 0 dX10_readText_124 rfl rfl ?_
      refine j_getS (k := 23) hX hfl cbX10 ty56 (by decide) rfl wd1163 rfl sb56_23 dX10_readText_125 ?_
      refine j_sipush hX dX10_readText_128 (rc rfl) (by decide) ?_
      refine j_iload_n hX 2 dX10_readText_131 rfl rfl ?_
      refine j_iadd hX dX10_readText_132 ?_
      obtain ⟨x12, hv, h⟩ := bs h
      refine j_bald hX hE ty70 pc70 hv dX10_readText_133 ?_
      obtain ⟨S13, hv, h⟩ := bs h
      refine j_bast hX hE ty70 pc70 hv dX10_readText_134 ?_
      refine j_aload_n hX 0 dX10_readText_135 rfl rfl ?_
      refine j_getS (k := 24) hX hfl cbX10 ty56 (by decide) rfl wd1164 rfl sb56_24 dX10_readText_136 ?_
      refine j_sipush hX dX10_readText_139 (rc rfl) (by decide) ?_
      refine j_iload_n hX 1 dX10_readText_142 rfl rfl ?_
      refine j_imul hX dX10_readText_143 ?_
      refine j_iload_n hX 2 dX10_readText_144 rfl rfl ?_
      refine j_iadd hX dX10_readText_145 ?_
      refine j_aload_n hX 0 dX10_readText_146 rfl rfl ?_
      refine j_getS (k := 24) hX hfl cbX10 ty56 (by decide) rfl wd1164 rfl sb56_24 dX10_readText_147 ?_
      refine j_sipush hX dX10_readText_150 (rc rfl) (by decide) ?_
      refine j_iload_n hX 2 dX10_readText_153 rfl rfl ?_
      refine j_iadd hX dX10_readText_154 ?_
      obtain ⟨x14, hv, h⟩ := bs h
      refine j_iald hX hE ty71 pc71 hv dX10_readText_155 ?_
      obtain ⟨S15, hv, h⟩ := bs h
      refine j_iast hX hE ty71 pc71 hv dX10_readText_156 ?_
      refine j_iinc (L' := [(2, vI (w32 (v2 + 1))), (0, vR 56), (1, vI (v1))]) hX 2 dX10_readText_157 hnl (by decide) rfl rfl ?_
      refine j_goto hX (tgt := 105) dX10_readText_160 (by decide) ?_
      refine j_sub [1, 2, 0] rfl ?_
      exact ih _ _ h
theorem sl_X10_readText_177 {X : K0} {B : Nat → Nat} {n : Nat} {E : Mem → Mem} {r : Int} {S' : Mem} (hX : Ctx X cX10_readText "TelegramFeelingsModel" 67) (hR : CR X (some .int)) (hfl : (gX X).2.2.2.2 = true) (hnl : X.2.2.2.2.2.2.2.2.2.2.2.2.2.2 = 3) (hE : Lens E PM)  {v1 : Int}  : ∀ (fu : Nat) (v2 : Int) (S : Mem), g_X10_readText_L177 v1 fu v2 S = some (r, S') → JW X B n 0 0 177 [(0, vR 56), (1, vI (v1)), (2, vI (v2))] [] (E S) (QM X (QcI (gX X) B n r (E S'))) := by
  intro fu
  induction fu with
  | zero =>
    intro v2 S h
    rw [g_X10_readText_L177] at h
    cases h
  | succ fu ih =>
    intro v2 S h
    rw [g_X10_readText_L177] at h
    refine j_iload_n hX 2 dX10_readText_177 rfl rfl ?_
    refine j_aload_n hX 0 dX10_readText_178 rfl rfl ?_
    refine j_getS (k := 25) hX hfl cbX10 ty56 (by decide) rfl wd1165 rfl sb56_25 dX10_readText_179 ?_
    refine j_iload_n hX 1 dX10_readText_182 rfl rfl ?_
    obtain ⟨x19, hv, h⟩ := bs h
    refine j_iald hX hE ty72 pc72 hv dX10_readText_183 ?_
    refine j_icmp_ge hX (tgt := 233) dX10_readText_184 (by decide) (fun hc => ?_) (fun hc => ?_)
    · rw [if_pos hc] at h
      refine j_iconst hX dX10_readText_233 (rc rfl) ?_
      cases h
      exact j_iret hX hR dX10_readText_234
    · rw [if_neg hc] at h
      refine j_aload_n hX 0 dX10_readText_187 rfl rfl ?_
      refine j_getS (k := 26) hX hfl cbX10 ty56 (by decide) rfl wd1166 rfl sb56_26 dX10_readText_188 ?_
      refine j_bipush hX dX10_readText_191 (rc rfl) (by decide) ?_
      refine j_iload_n hX 1 dX10_readText_193 rfl rfl ?_
      refine j_imul hX dX10_readText_194 ?_
      refine j_iload_n hX 2 dX10_readText_195 rfl rfl ?_
      refine j_iadd hX dX10_readText_196 ?_
      refine j_aload_n hX 0 dX10_readText_197 rfl rfl ?_
      refine j_getS (k := 26) hX hfl cbX10 ty56 (by decide) rfl wd1166 rfl sb56_26 dX10_readText_198 ?_
      refine j_bipush hX dX10_readText_201 (rc rfl) (by decide) ?_
      refine j_iload_n hX 2 dX10_readText_203 rfl rfl ?_
      refine j_iadd hX dX10_readText_204 ?_
      obtain ⟨x20, hv, h⟩ := bs h
      refine j_sald hX hE ty73 pc73 hv dX10_readText_205 ?_
      obtain ⟨S21, hv, h⟩ := bs h
      refine j_sast hX hE ty73 pc73 hv dX10_readText_206 ?_
      refine j_aload_n hX 0 dX10_readText_207 rfl rfl ?_
      refine j_getS (k := 27) hX hfl cbX10 ty56 (by decide) rfl wd1167 rfl sb56_27 dX10_readText_208 ?_
      refine j_bipush hX dX10_readText_211 (rc rfl) (by decide) ?_
      refine j_iload_n hX 1 dX10_readText_213 rfl rfl ?_
      refine j_imul hX dX10_readText_214 ?_
      refine j_iload_n hX 2 dX10_readText_215 rfl rfl ?_
      refine j_iadd hX dX10_readText_216 ?_
      refine j_aload_n hX 0 dX10_readText_217 rfl rfl ?_
      refine j_getS (k := 27) hX hfl cbX10 ty56 (by decide) rfl wd1167 rfl sb56_27 dX10_readText_218 ?_
      refine j_bipush hX dX10_readText_221 (rc rfl) (by decide) ?_
      refine j_iload_n hX 2 dX10_readText_223 rfl rfl ?_
      refine j_iadd hX dX10_readText_224 ?_
      obtain ⟨x22, hv, h⟩ := bs h
      refine j_sald hX hE ty74 pc74 hv dX10_readText_225 ?_
      obtain ⟨S23, hv, h⟩ := bs h
      refine j_sast hX hE ty74 pc74 hv dX10_readText_226 ?_
      refine j_iinc (L' := [(2, vI (w32 (v2 + 1))), (0, vR 56), (1, vI (v1))]) hX 2 dX10_readText_227 hnl (by decide) rfl rfl ?_
      refine j_goto hX (tgt := 177) dX10_readText_230 (by decide) ?_
      refine j_sub [1, 2, 0] rfl ?_
      exact ih _ _ h
theorem sj_X10_readText_64 {X : K0} {B : Nat → Nat} {n : Nat} {E : Mem → Mem} {r : Int} {S' : Mem} (hX : Ctx X cX10_readText "TelegramFeelingsModel" 67) (hR : CR X (some .int)) (hfl : (gX X).2.2.2.2 = true) (hnl : X.2.2.2.2.2.2.2.2.2.2.2.2.2.2 = 3) (hE : Lens E PM)   {v1 : Int} {S : Mem} (h : g_X10_readText_J64 v1 S = some (r, S')) : JW X B n 0 0 64 [(0, vR 56), (1, vI (v1))] [] (E S) (QM X (QcI (gX X) B n r (E S'))) := by
  unfold g_X10_readText_J64 at h
  refine j_aload_n hX 0 dX10_readText_64 rfl rfl ?_
  refine j_getI (k := 20) hX hE cbX10 ty56 pc56 (by decide) rfl wd1160 rfl dX10_readText_65 ?_
  refine j_if_ge hX (tgt := 86) dX10_readText_68 (by decide) (fun hc => ?_) (fun hc => ?_)
  · rw [if_pos hc] at h
    refine j_aload_n hX 0 dX10_readText_86 rfl rfl ?_
    refine j_iconst hX dX10_readText_87 (rc rfl) ?_
    refine j_putI (k := 18) hX hE cbX10 ty56 pc56 (by decide) rfl wd1158 rfl (Or.inl rfl) rfl dX10_readText_88 ?_
    obtain ⟨S11, hx, h⟩ := ap_s h
    rw [← hx]
    clear hx
    refine j_aload_n hX 0 dX10_readText_91 rfl rfl ?_
    refine j_getI (k := 20) hX hE cbX10 ty56 pc56 (by decide) rfl wd1160 rfl dX10_readText_92 ?_
    refine j_if_lt hX (tgt := 103) dX10_readText_95 (by decide) (fun hc => ?_) (fun hc => ?_)
    · rw [if_pos hc] at h
      refine j_iconst hX dX10_readText_103 (rc rfl) ?_
      refine j_istore_n (L' := [(2, vI (0)), (0, vR 56), (1, vI (v1))]) hX dX10_readText_104 rfl hnl (by decide) rfl ?_
      refine j_sub [1, 2, 0] rfl ?_
      refine sl_X10_readText_105 hX hR hfl hnl hE (fun S16 h => ?_) _ _ _ h
      refine j_aload_n hX 0 dX10_readText_163 rfl rfl ?_
      refine j_getS (k := 25) hX hfl cbX10 ty56 (by decide) rfl wd1165 rfl sb56_25 dX10_readText_164 ?_
      refine j_iload_n hX 1 dX10_readText_167 rfl rfl ?_
      refine j_aload_n hX 0 dX10_readText_168 rfl rfl ?_
      refine j_getS (k := 25) hX hfl cbX10 ty56 (by decide) rfl wd1165 rfl sb56_25 dX10_readText_169 ?_
      refine j_iconst hX dX10_readText_172 (rc rfl) ?_
      refine j_iald hX hE ty72 pc72 (ldk_c (k := 1) (by decide)) dX10_readText_173 ?_
      obtain ⟨S18, hv, h⟩ := bs h
      refine j_iast hX hE ty72 pc72 hv dX10_readText_174 ?_
      refine j_iconst hX dX10_readText_175 (rc rfl) ?_
      refine j_istore_n (L' := [(2, vI (0)), (0, vR 56), (1, vI (v1))]) hX dX10_readText_176 rfl hnl (by decide) rfl ?_
      refine j_sub [1, 2, 0] rfl ?_
      refine sl_X10_readText_177 hX hR hfl hnl hE  _ _ _ h
    · rw [if_neg hc] at h
      refine j_aload_n hX 0 dX10_readText_98 rfl rfl ?_
      refine j_getI (k := 20) hX hE cbX10 ty56 pc56 (by decide) rfl wd1160 rfl dX10_readText_99 ?_
      cases h
      exact j_iret hX hR dX10_readText_102
  · rw [if_neg hc] at h
    refine j_aload_n hX 0 dX10_readText_71 rfl rfl ?_
    refine j_getI (k := 19) hX hE cbX10 ty56 pc56 (by decide) rfl wd1159 rfl dX10_readText_72 ?_
    refine j_aload_n hX 0 dX10_readText_75 rfl rfl ?_
    refine j_getI (k := 18) hX hE cbX10 ty56 pc56 (by decide) rfl wd1158 rfl dX10_readText_76 ?_
    refine j_icmp_ge hX (tgt := 86) dX10_readText_79 (by decide) (fun hc => ?_) (fun hc => ?_)
    · rw [if_pos hc] at h
      refine j_aload_n hX 0 dX10_readText_86 rfl rfl ?_
      refine j_iconst hX dX10_readText_87 (rc rfl) ?_
      refine j_putI (k := 18) hX hE cbX10 ty56 pc56 (by decide) rfl wd1158 rfl (Or.inl rfl) rfl dX10_readText_88 ?_
      obtain ⟨S24, hx, h⟩ := ap_s h
      rw [← hx]
      clear hx
      refine j_aload_n hX 0 dX10_readText_91 rfl rfl ?_
      refine j_getI (k := 20) hX hE cbX10 ty56 pc56 (by decide) rfl wd1160 rfl dX10_readText_92 ?_
      refine j_if_lt hX (tgt := 103) dX10_readText_95 (by decide) (fun hc => ?_) (fun hc => ?_)
      · rw [if_pos hc] at h
        refine j_iconst hX dX10_readText_103 (rc rfl) ?_
        refine j_istore_n (L' := [(2, vI (0)), (0, vR 56), (1, vI (v1))]) hX dX10_readText_104 rfl hnl (by decide) rfl ?_
        refine j_sub [1, 2, 0] rfl ?_
        refine sl_X10_readText_105 hX hR hfl hnl hE (fun S25 h => ?_) _ _ _ h
        refine j_aload_n hX 0 dX10_readText_163 rfl rfl ?_
        refine j_getS (k := 25) hX hfl cbX10 ty56 (by decide) rfl wd1165 rfl sb56_25 dX10_readText_164 ?_
        refine j_iload_n hX 1 dX10_readText_167 rfl rfl ?_
        refine j_aload_n hX 0 dX10_readText_168 rfl rfl ?_
        refine j_getS (k := 25) hX hfl cbX10 ty56 (by decide) rfl wd1165 rfl sb56_25 dX10_readText_169 ?_
        refine j_iconst hX dX10_readText_172 (rc rfl) ?_
        refine j_iald hX hE ty72 pc72 (ldk_c (k := 1) (by decide)) dX10_readText_173 ?_
        obtain ⟨S27, hv, h⟩ := bs h
        refine j_iast hX hE ty72 pc72 hv dX10_readText_174 ?_
        refine j_iconst hX dX10_readText_175 (rc rfl) ?_
        refine j_istore_n (L' := [(2, vI (0)), (0, vR 56), (1, vI (v1))]) hX dX10_readText_176 rfl hnl (by decide) rfl ?_
        refine j_sub [1, 2, 0] rfl ?_
        refine sl_X10_readText_177 hX hR hfl hnl hE  _ _ _ h
      · rw [if_neg hc] at h
        refine j_aload_n hX 0 dX10_readText_98 rfl rfl ?_
        refine j_getI (k := 20) hX hE cbX10 ty56 pc56 (by decide) rfl wd1160 rfl dX10_readText_99 ?_
        cases h
        exact j_iret hX hR dX10_readText_102
    · rw [if_neg hc] at h
      refine j_aload_n hX 0 dX10_readText_82 rfl rfl ?_
      obtain ⟨S28, h1, h⟩ := bs h
      refine j_callVV hX mwX10_wrong miX10_wrong wd1444 cbX10 ty56 hyX10_wrong (by omega) (by decide) ⟨Nat.zero_le _, Nat.zero_le _⟩ dX10_readText_83 (s_X10_wrong hfl hE h1) npX10_wrong rfl (Nat.le_of_ble_eq_true rfl) ?_
      refine j_aload_n hX 0 dX10_readText_86 rfl rfl ?_
      refine j_iconst hX dX10_readText_87 (rc rfl) ?_
      refine j_putI (k := 18) hX hE cbX10 ty56 pc56 (by decide) rfl wd1158 rfl (Or.inl rfl) rfl dX10_readText_88 ?_
      obtain ⟨S29, hx, h⟩ := ap_s h
      rw [← hx]
      clear hx
      refine j_aload_n hX 0 dX10_readText_91 rfl rfl ?_
      refine j_getI (k := 20) hX hE cbX10 ty56 pc56 (by decide) rfl wd1160 rfl dX10_readText_92 ?_
      refine j_if_lt hX (tgt := 103) dX10_readText_95 (by decide) (fun hc => ?_) (fun hc => ?_)
      · rw [if_pos hc] at h
        refine j_iconst hX dX10_readText_103 (rc rfl) ?_
        refine j_istore_n (L' := [(2, vI (0)), (0, vR 56), (1, vI (v1))]) hX dX10_readText_104 rfl hnl (by decide) rfl ?_
        refine j_sub [1, 2, 0] rfl ?_
        refine sl_X10_readText_105 hX hR hfl hnl hE (fun S30 h => ?_) _ _ _ h
        refine j_aload_n hX 0 dX10_readText_163 rfl rfl ?_
        refine j_getS (k := 25) hX hfl cbX10 ty56 (by decide) rfl wd1165 rfl sb56_25 dX10_readText_164 ?_
        refine j_iload_n hX 1 dX10_readText_167 rfl rfl ?_
        refine j_aload_n hX 0 dX10_readText_168 rfl rfl ?_
        refine j_getS (k := 25) hX hfl cbX10 ty56 (by decide) rfl wd1165 rfl sb56_25 dX10_readText_169 ?_
        refine j_iconst hX dX10_readText_172 (rc rfl) ?_
        refine j_iald hX hE ty72 pc72 (ldk_c (k := 1) (by decide)) dX10_readText_173 ?_
        obtain ⟨S32, hv, h⟩ := bs h
        refine j_iast hX hE ty72 pc72 hv dX10_readText_174 ?_
        refine j_iconst hX dX10_readText_175 (rc rfl) ?_
        refine j_istore_n (L' := [(2, vI (0)), (0, vR 56), (1, vI (v1))]) hX dX10_readText_176 rfl hnl (by decide) rfl ?_
        refine j_sub [1, 2, 0] rfl ?_
        refine sl_X10_readText_177 hX hR hfl hnl hE  _ _ _ h
      · rw [if_neg hc] at h
        refine j_aload_n hX 0 dX10_readText_98 rfl rfl ?_
        refine j_getI (k := 20) hX hE cbX10 ty56 pc56 (by decide) rfl wd1160 rfl dX10_readText_99 ?_
        cases h
        exact j_iret hX hR dX10_readText_102
theorem s_X10_readText {g : G0} {B : Nat → Nat} {n : Nat} {E : Mem → Mem} {a1 : Int} {S : Mem} {r : Int} {S' : Mem} (hfl : g.2.2.2.2 = true) (hE : Lens E PM) (h : g_X10_readText a1 S = some (r, S')) : Cn g B n yX10_readText cX10_readText 3 (some .int) 67 [vR 56, vI (a1)] (E S) (QcI g B n r (E S')) := by
  refine Cn.of (by decide +kernel) (Nat.le_of_ble_eq_true rfl) (fun X hg hnl hX hR => ?_)
  subst hg
  have hX : Ctx X cX10_readText "TelegramFeelingsModel" 67 := hX
  unfold g_X10_readText at h
  show JW X B n 0 0 0 [(0, vR 56), (1, vI (a1))] [] (E S) (QM X (QcI (gX X) B n r (E S')))
  refine j_aload_n hX 0 dX10_readText_0 rfl rfl ?_
  refine j_iconst hX dX10_readText_1 (rc rfl) ?_
  refine j_putI (k := 19) hX hE cbX10 ty56 pc56 (by decide) rfl wd1159 rfl (Or.inl rfl) rfl dX10_readText_2 ?_
  obtain ⟨S1, hx, h⟩ := ap_s h
  rw [← hx]
  clear hx
  refine j_aload_n hX 0 dX10_readText_5 rfl rfl ?_
  refine j_iconst hX dX10_readText_6 (rc rfl) ?_
  refine j_putI (k := 20) hX hE cbX10 ty56 pc56 (by decide) rfl wd1160 rfl (Or.inl rfl) rfl dX10_readText_7 ?_
  obtain ⟨S2, hx, h⟩ := ap_s h
  rw [← hx]
  clear hx
  refine j_aload_n hX 0 dX10_readText_10 rfl rfl ?_
  refine j_iconst hX dX10_readText_11 (rc rfl) ?_
  refine j_putI (k := 21) hX hE cbX10 ty56 pc56 (by decide) rfl wd1161 rfl (Or.inl rfl) rfl dX10_readText_12 ?_
  obtain ⟨S3, hx, h⟩ := ap_s h
  rw [← hx]
  clear hx
  refine j_aload_n hX 0 dX10_readText_15 rfl rfl ?_
  refine j_iconst hX dX10_readText_16 (rc rfl) ?_
  refine j_putI (k := 22) hX hE cbX10 ty56 pc56 (by decide) rfl wd1162 rfl (Or.inl rfl) rfl dX10_readText_17 ?_
  obtain ⟨S4, hx, h⟩ := ap_s h
  rw [← hx]
  clear hx
  refine j_aload_n hX 0 dX10_readText_20 rfl rfl ?_
  refine j_getS (k := 25) hX hfl cbX10 ty56 (by decide) rfl wd1165 rfl sb56_25 dX10_readText_21 ?_
  refine j_iconst hX dX10_readText_24 (rc rfl) ?_
  refine j_iconst hX dX10_readText_25 (rc rfl) ?_
  refine j_iast hX hE ty72 pc72 (stk_c (k := 1) (by decide)) dX10_readText_26 ?_
  obtain ⟨S5, hx, h⟩ := ap_s h
  rw [← hx]
  clear hx
  refine j_aload_n hX 0 dX10_readText_27 rfl rfl ?_
  obtain ⟨S6, h1, h⟩ := bs h
  refine j_callVV hX mwX10_line miX10_line wd1401 cbX10 ty56 hyX10_line (by omega) (by decide) ⟨Nat.zero_le _, Nat.zero_le _⟩ dX10_readText_28 (s_X10_line hfl hE h1) npX10_line rfl (Nat.le_of_ble_eq_true rfl) ?_
  refine j_sub [0, 1] rfl ?_
  refine sl_X10_readText_31 hX hR hfl hnl hE (fun S10 h => ?_) _ _ h
  refine j_sub [0, 1] rfl ?_
  exact sj_X10_readText_64 hX hR hfl hnl hE  h
theorem s_X10_twoOf {g : G0} {B : Nat → Nat} {n : Nat} {M : Mem} {a1 : Int} {a2 : Int} {a3 : Int} {r : Int} (hfl : g.2.2.2.2 = true) (h : g_X10_twoOf a1 a2 a3 = some r) : Cn g B n yX10_twoOf cX10_twoOf 3 (some .int) 1 [vI (a1), vI (a2), vI (a3)] M (QcI g B n r M) := by
  refine Cn.of (by decide +kernel) (Nat.le_of_ble_eq_true rfl) (fun X hg hnl hX hR => ?_)
  subst hg
  have hX : Ctx X cX10_twoOf "TelegramFeelingsModel" 1 := hX
  unfold g_X10_twoOf at h
  show JW X B n 0 0 0 [(0, vI (a1)), (1, vI (a2)), (2, vI (a3))] [] (M) (QM X (QcI (gX X) B n r M))
  refine j_iload_n hX 0 dX10_twoOf_0 rfl rfl ?_
  by_cases hc0 : a1 = 37
  · rw [if_pos hc0] at h
    refine j_tin hX (tgt := 154) dX10_twoOf_1 hc0 (by decide) (by decide) rfl (by decide) ?_
    refine j_iload_n hX 2 dX10_twoOf_154 rfl rfl ?_
    refine j_if_eq hX (tgt := 163) dX10_twoOf_155 (by decide) (fun hc => ?_) (fun hc => ?_)
    · rw [if_pos hc] at h
      refine j_iconst hX dX10_twoOf_163 (rc rfl) ?_
      refine j_goto hX (tgt := 170) dX10_twoOf_164 (by decide) ?_
      cases h
      exact j_iret hX hR dX10_twoOf_170
    · rw [if_neg hc] at h
      refine j_iload_n hX 2 dX10_twoOf_158 rfl rfl ?_
      refine j_iconst hX dX10_twoOf_159 (rc rfl) ?_
      refine j_icmp_ne hX (tgt := 167) dX10_twoOf_160 (by decide) (fun hc => ?_) (fun hc => ?_)
      · rw [if_neg hc] at h
        refine j_iload_n hX 1 dX10_twoOf_167 rfl rfl ?_
        refine j_iload_n hX 2 dX10_twoOf_168 rfl rfl ?_
        obtain ⟨hz, h⟩ := chk_s h
        refine j_irem hX dX10_twoOf_169 hz ?_
        cases h
        exact j_iret hX hR dX10_twoOf_170
      · rw [if_pos hc] at h
        refine j_iconst hX dX10_twoOf_163 (rc rfl) ?_
        refine j_goto hX (tgt := 170) dX10_twoOf_164 (by decide) ?_
        cases h
        exact j_iret hX hR dX10_twoOf_170
  · rw [if_neg hc0] at h
    by_cases hc1 : a1 = 38
    · rw [if_pos hc1] at h
      refine j_tin hX (tgt := 204) dX10_twoOf_1 hc1 (by decide) (by decide) rfl (by decide) ?_
      refine j_iload_n hX 1 dX10_twoOf_204 rfl rfl ?_
      refine j_if_eq hX (tgt := 216) dX10_twoOf_205 (by decide) (fun hc => ?_) (fun hc => ?_)
      · rw [if_pos hc] at h
        refine j_iconst hX dX10_twoOf_216 (rc rfl) ?_
        cases h
        exact j_iret hX hR dX10_twoOf_217
      · rw [if_neg hc] at h
        refine j_iload_n hX 2 dX10_twoOf_208 rfl rfl ?_
        refine j_if_eq hX (tgt := 216) dX10_twoOf_209 (by decide) (fun hc => ?_) (fun hc => ?_)
        · rw [if_pos hc] at h
          refine j_iconst hX dX10_twoOf_216 (rc rfl) ?_
          cases h
          exact j_iret hX hR dX10_twoOf_217
        · rw [if_neg hc] at h
          refine j_iconst hX dX10_twoOf_212 (rc rfl) ?_
          refine j_goto hX (tgt := 217) dX10_twoOf_213 (by decide) ?_
          cases h
          exact j_iret hX hR dX10_twoOf_217
    · rw [if_neg hc1] at h
      by_cases hc2 : a1 = 39
      · rw [if_pos hc2] at h
        refine j_tin hX (tgt := 218) dX10_twoOf_1 hc2 (by decide) (by decide) rfl (by decide) ?_
        refine j_iload_n hX 1 dX10_twoOf_218 rfl rfl ?_
        refine j_if_ne hX (tgt := 226) dX10_twoOf_219 (by decide) (fun hc => ?_) (fun hc => ?_)
        · rw [if_neg hc] at h
          refine j_iconst hX dX10_twoOf_226 (rc rfl) ?_
          refine j_goto hX (tgt := 231) dX10_twoOf_227 (by decide) ?_
          cases h
          exact j_iret hX hR dX10_twoOf_231
        · rw [if_pos hc] at h
          refine j_iload_n hX 2 dX10_twoOf_222 rfl rfl ?_
          refine j_if_eq hX (tgt := 230) dX10_twoOf_223 (by decide) (fun hc => ?_) (fun hc => ?_)
          · rw [if_pos hc] at h
            refine j_iconst hX dX10_twoOf_230 (rc rfl) ?_
            cases h
            exact j_iret hX hR dX10_twoOf_231
          · rw [if_neg hc] at h
            refine j_iconst hX dX10_twoOf_226 (rc rfl) ?_
            refine j_goto hX (tgt := 231) dX10_twoOf_227 (by decide) ?_
            cases h
            exact j_iret hX hR dX10_twoOf_231
      · rw [if_neg hc2] at h
        by_cases hc3 : a1 = 40
        · rw [if_pos hc3] at h
          refine j_tin hX (tgt := 218) dX10_twoOf_1 hc3 (by decide) (by decide) rfl (by decide) ?_
          refine j_iload_n hX 1 dX10_twoOf_218 rfl rfl ?_
          refine j_if_ne hX (tgt := 226) dX10_twoOf_219 (by decide) (fun hc => ?_) (fun hc => ?_)
          · rw [if_neg hc] at h
            refine j_iconst hX dX10_twoOf_226 (rc rfl) ?_
            refine j_goto hX (tgt := 231) dX10_twoOf_227 (by decide) ?_
            cases h
            exact j_iret hX hR dX10_twoOf_231
          · rw [if_pos hc] at h
            refine j_iload_n hX 2 dX10_twoOf_222 rfl rfl ?_
            refine j_if_eq hX (tgt := 230) dX10_twoOf_223 (by decide) (fun hc => ?_) (fun hc => ?_)
            · rw [if_pos hc] at h
              refine j_iconst hX dX10_twoOf_230 (rc rfl) ?_
              cases h
              exact j_iret hX hR dX10_twoOf_231
            · rw [if_neg hc] at h
              refine j_iconst hX dX10_twoOf_226 (rc rfl) ?_
              refine j_goto hX (tgt := 231) dX10_twoOf_227 (by decide) ?_
              cases h
              exact j_iret hX hR dX10_twoOf_231
        · rw [if_neg hc3] at h
          by_cases hc4 : a1 = 41
          · rw [if_pos hc4] at h
            refine j_tin hX (tgt := 218) dX10_twoOf_1 hc4 (by decide) (by decide) rfl (by decide) ?_
            refine j_iload_n hX 1 dX10_twoOf_218 rfl rfl ?_
            refine j_if_ne hX (tgt := 226) dX10_twoOf_219 (by decide) (fun hc => ?_) (fun hc => ?_)
            · rw [if_neg hc] at h
              refine j_iconst hX dX10_twoOf_226 (rc rfl) ?_
              refine j_goto hX (tgt := 231) dX10_twoOf_227 (by decide) ?_
              cases h
              exact j_iret hX hR dX10_twoOf_231
            · rw [if_pos hc] at h
              refine j_iload_n hX 2 dX10_twoOf_222 rfl rfl ?_
              refine j_if_eq hX (tgt := 230) dX10_twoOf_223 (by decide) (fun hc => ?_) (fun hc => ?_)
              · rw [if_pos hc] at h
                refine j_iconst hX dX10_twoOf_230 (rc rfl) ?_
                cases h
                exact j_iret hX hR dX10_twoOf_231
              · rw [if_neg hc] at h
                refine j_iconst hX dX10_twoOf_226 (rc rfl) ?_
                refine j_goto hX (tgt := 231) dX10_twoOf_227 (by decide) ?_
                cases h
                exact j_iret hX hR dX10_twoOf_231
          · rw [if_neg hc4] at h
            by_cases hc5 : a1 = 42
            · rw [if_pos hc5] at h
              refine j_tin hX (tgt := 128) dX10_twoOf_1 hc5 (by decide) (by decide) rfl (by decide) ?_
              refine j_iload_n hX 1 dX10_twoOf_128 rfl rfl ?_
              refine j_iload_n hX 2 dX10_twoOf_129 rfl rfl ?_
              refine j_imul hX dX10_twoOf_130 ?_
              cases h
              exact j_iret hX hR dX10_twoOf_131
            · rw [if_neg hc5] at h
              by_cases hc6 : a1 = 43
              · rw [if_pos hc6] at h
                refine j_tin hX (tgt := 120) dX10_twoOf_1 hc6 (by decide) (by decide) rfl (by decide) ?_
                refine j_iload_n hX 1 dX10_twoOf_120 rfl rfl ?_
                refine j_iload_n hX 2 dX10_twoOf_121 rfl rfl ?_
                refine j_iadd hX dX10_twoOf_122 ?_
                cases h
                exact j_iret hX hR dX10_twoOf_123
              · rw [if_neg hc6] at h
                by_cases hc7 : a1 = 44
                · rw [if_pos hc7] at h
                  refine j_tin hX (tgt := 218) dX10_twoOf_1 hc7 (by decide) (by decide) rfl (by decide) ?_
                  refine j_iload_n hX 1 dX10_twoOf_218 rfl rfl ?_
                  refine j_if_ne hX (tgt := 226) dX10_twoOf_219 (by decide) (fun hc => ?_) (fun hc => ?_)
                  · rw [if_neg hc] at h
                    refine j_iconst hX dX10_twoOf_226 (rc rfl) ?_
                    refine j_goto hX (tgt := 231) dX10_twoOf_227 (by decide) ?_
                    cases h
                    exact j_iret hX hR dX10_twoOf_231
                  · rw [if_pos hc] at h
                    refine j_iload_n hX 2 dX10_twoOf_222 rfl rfl ?_
                    refine j_if_eq hX (tgt := 230) dX10_twoOf_223 (by decide) (fun hc => ?_) (fun hc => ?_)
                    · rw [if_pos hc] at h
                      refine j_iconst hX dX10_twoOf_230 (rc rfl) ?_
                      cases h
                      exact j_iret hX hR dX10_twoOf_231
                    · rw [if_neg hc] at h
                      refine j_iconst hX dX10_twoOf_226 (rc rfl) ?_
                      refine j_goto hX (tgt := 231) dX10_twoOf_227 (by decide) ?_
                      cases h
                      exact j_iret hX hR dX10_twoOf_231
                · rw [if_neg hc7] at h
                  by_cases hc8 : a1 = 45
                  · rw [if_pos hc8] at h
                    refine j_tin hX (tgt := 124) dX10_twoOf_1 hc8 (by decide) (by decide) rfl (by decide) ?_
                    refine j_iload_n hX 1 dX10_twoOf_124 rfl rfl ?_
                    refine j_iload_n hX 2 dX10_twoOf_125 rfl rfl ?_
                    refine j_isub hX dX10_twoOf_126 ?_
                    cases h
                    exact j_iret hX hR dX10_twoOf_127
                  · rw [if_neg hc8] at h
                    by_cases hc9 : a1 = 46
                    · rw [if_pos hc9] at h
                      refine j_tin hX (tgt := 218) dX10_twoOf_1 hc9 (by decide) (by decide) rfl (by decide) ?_
                      refine j_iload_n hX 1 dX10_twoOf_218 rfl rfl ?_
                      refine j_if_ne hX (tgt := 226) dX10_twoOf_219 (by decide) (fun hc => ?_) (fun hc => ?_)
                      · rw [if_neg hc] at h
                        refine j_iconst hX dX10_twoOf_226 (rc rfl) ?_
                        refine j_goto hX (tgt := 231) dX10_twoOf_227 (by decide) ?_
                        cases h
                        exact j_iret hX hR dX10_twoOf_231
                      · rw [if_pos hc] at h
                        refine j_iload_n hX 2 dX10_twoOf_222 rfl rfl ?_
                        refine j_if_eq hX (tgt := 230) dX10_twoOf_223 (by decide) (fun hc => ?_) (fun hc => ?_)
                        · rw [if_pos hc] at h
                          refine j_iconst hX dX10_twoOf_230 (rc rfl) ?_
                          cases h
                          exact j_iret hX hR dX10_twoOf_231
                        · rw [if_neg hc] at h
                          refine j_iconst hX dX10_twoOf_226 (rc rfl) ?_
                          refine j_goto hX (tgt := 231) dX10_twoOf_227 (by decide) ?_
                          cases h
                          exact j_iret hX hR dX10_twoOf_231
                    · rw [if_neg hc9] at h
                      by_cases hc10 : a1 = 47
                      · rw [if_pos hc10] at h
                        refine j_tin hX (tgt := 132) dX10_twoOf_1 hc10 (by decide) (by decide) rfl (by decide) ?_
                        refine j_iload_n hX 2 dX10_twoOf_132 rfl rfl ?_
                        refine j_if_ne hX (tgt := 140) dX10_twoOf_133 (by decide) (fun hc => ?_) (fun hc => ?_)
                        · rw [if_neg hc] at h
                          refine j_iload_n hX 2 dX10_twoOf_140 rfl rfl ?_
                          refine j_iconst hX dX10_twoOf_141 (rc rfl) ?_
                          refine j_icmp_ne hX (tgt := 150) dX10_twoOf_142 (by decide) (fun hc => ?_) (fun hc => ?_)
                          · rw [if_neg hc] at h
                            refine j_iload_n hX 1 dX10_twoOf_150 rfl rfl ?_
                            refine j_iload_n hX 2 dX10_twoOf_151 rfl rfl ?_
                            obtain ⟨hz, h⟩ := chk_s h
                            refine j_idiv hX dX10_twoOf_152 hz ?_
                            cases h
                            exact j_iret hX hR dX10_twoOf_153
                          · rw [if_pos hc] at h
                            refine j_iload_n hX 1 dX10_twoOf_145 rfl rfl ?_
                            refine j_ineg hX dX10_twoOf_146 ?_
                            refine j_goto hX (tgt := 153) dX10_twoOf_147 (by decide) ?_
                            cases h
                            exact j_iret hX hR dX10_twoOf_153
                        · rw [if_pos hc] at h
                          refine j_iconst hX dX10_twoOf_136 (rc rfl) ?_
                          refine j_goto hX (tgt := 153) dX10_twoOf_137 (by decide) ?_
                          cases h
                          exact j_iret hX hR dX10_twoOf_153
                      · rw [if_neg hc10] at h
                        by_cases hc11 : a1 = 48
                        · rw [if_pos hc11] at h
                          refine j_tin hX (tgt := 218) dX10_twoOf_1 hc11 (by decide) (by decide) rfl (by decide) ?_
                          refine j_iload_n hX 1 dX10_twoOf_218 rfl rfl ?_
                          refine j_if_ne hX (tgt := 226) dX10_twoOf_219 (by decide) (fun hc => ?_) (fun hc => ?_)
                          · rw [if_neg hc] at h
                            refine j_iconst hX dX10_twoOf_226 (rc rfl) ?_
                            refine j_goto hX (tgt := 231) dX10_twoOf_227 (by decide) ?_
                            cases h
                            exact j_iret hX hR dX10_twoOf_231
                          · rw [if_pos hc] at h
                            refine j_iload_n hX 2 dX10_twoOf_222 rfl rfl ?_
                            refine j_if_eq hX (tgt := 230) dX10_twoOf_223 (by decide) (fun hc => ?_) (fun hc => ?_)
                            · rw [if_pos hc] at h
                              refine j_iconst hX dX10_twoOf_230 (rc rfl) ?_
                              cases h
                              exact j_iret hX hR dX10_twoOf_231
                            · rw [if_neg hc] at h
                              refine j_iconst hX dX10_twoOf_226 (rc rfl) ?_
                              refine j_goto hX (tgt := 231) dX10_twoOf_227 (by decide) ?_
                              cases h
                              exact j_iret hX hR dX10_twoOf_231
                        · rw [if_neg hc11] at h
                          by_cases hc12 : a1 = 49
                          · rw [if_pos hc12] at h
                            refine j_tin hX (tgt := 218) dX10_twoOf_1 hc12 (by decide) (by decide) rfl (by decide) ?_
                            refine j_iload_n hX 1 dX10_twoOf_218 rfl rfl ?_
                            refine j_if_ne hX (tgt := 226) dX10_twoOf_219 (by decide) (fun hc => ?_) (fun hc => ?_)
                            · rw [if_neg hc] at h
                              refine j_iconst hX dX10_twoOf_226 (rc rfl) ?_
                              refine j_goto hX (tgt := 231) dX10_twoOf_227 (by decide) ?_
                              cases h
                              exact j_iret hX hR dX10_twoOf_231
                            · rw [if_pos hc] at h
                              refine j_iload_n hX 2 dX10_twoOf_222 rfl rfl ?_
                              refine j_if_eq hX (tgt := 230) dX10_twoOf_223 (by decide) (fun hc => ?_) (fun hc => ?_)
                              · rw [if_pos hc] at h
                                refine j_iconst hX dX10_twoOf_230 (rc rfl) ?_
                                cases h
                                exact j_iret hX hR dX10_twoOf_231
                              · rw [if_neg hc] at h
                                refine j_iconst hX dX10_twoOf_226 (rc rfl) ?_
                                refine j_goto hX (tgt := 231) dX10_twoOf_227 (by decide) ?_
                                cases h
                                exact j_iret hX hR dX10_twoOf_231
                          · rw [if_neg hc12] at h
                            by_cases hc13 : a1 = 50
                            · rw [if_pos hc13] at h
                              refine j_tin hX (tgt := 218) dX10_twoOf_1 hc13 (by decide) (by decide) rfl (by decide) ?_
                              refine j_iload_n hX 1 dX10_twoOf_218 rfl rfl ?_
                              refine j_if_ne hX (tgt := 226) dX10_twoOf_219 (by decide) (fun hc => ?_) (fun hc => ?_)
                              · rw [if_neg hc] at h
                                refine j_iconst hX dX10_twoOf_226 (rc rfl) ?_
                                refine j_goto hX (tgt := 231) dX10_twoOf_227 (by decide) ?_
                                cases h
                                exact j_iret hX hR dX10_twoOf_231
                              · rw [if_pos hc] at h
                                refine j_iload_n hX 2 dX10_twoOf_222 rfl rfl ?_
                                refine j_if_eq hX (tgt := 230) dX10_twoOf_223 (by decide) (fun hc => ?_) (fun hc => ?_)
                                · rw [if_pos hc] at h
                                  refine j_iconst hX dX10_twoOf_230 (rc rfl) ?_
                                  cases h
                                  exact j_iret hX hR dX10_twoOf_231
                                · rw [if_neg hc] at h
                                  refine j_iconst hX dX10_twoOf_226 (rc rfl) ?_
                                  refine j_goto hX (tgt := 231) dX10_twoOf_227 (by decide) ?_
                                  cases h
                                  exact j_iret hX hR dX10_twoOf_231
                            · rw [if_neg hc13] at h
                              by_cases hc14 : a1 = 51
                              · rw [if_pos hc14] at h
                                refine j_tin hX (tgt := 218) dX10_twoOf_1 hc14 (by decide) (by decide) rfl (by decide) ?_
                                refine j_iload_n hX 1 dX10_twoOf_218 rfl rfl ?_
                                refine j_if_ne hX (tgt := 226) dX10_twoOf_219 (by decide) (fun hc => ?_) (fun hc => ?_)
                                · rw [if_neg hc] at h
                                  refine j_iconst hX dX10_twoOf_226 (rc rfl) ?_
                                  refine j_goto hX (tgt := 231) dX10_twoOf_227 (by decide) ?_
                                  cases h
                                  exact j_iret hX hR dX10_twoOf_231
                                · rw [if_pos hc] at h
                                  refine j_iload_n hX 2 dX10_twoOf_222 rfl rfl ?_
                                  refine j_if_eq hX (tgt := 230) dX10_twoOf_223 (by decide) (fun hc => ?_) (fun hc => ?_)
                                  · rw [if_pos hc] at h
                                    refine j_iconst hX dX10_twoOf_230 (rc rfl) ?_
                                    cases h
                                    exact j_iret hX hR dX10_twoOf_231
                                  · rw [if_neg hc] at h
                                    refine j_iconst hX dX10_twoOf_226 (rc rfl) ?_
                                    refine j_goto hX (tgt := 231) dX10_twoOf_227 (by decide) ?_
                                    cases h
                                    exact j_iret hX hR dX10_twoOf_231
                              · rw [if_neg hc14] at h
                                by_cases hc15 : a1 = 52
                                · rw [if_pos hc15] at h
                                  refine j_tin hX (tgt := 218) dX10_twoOf_1 hc15 (by decide) (by decide) rfl (by decide) ?_
                                  refine j_iload_n hX 1 dX10_twoOf_218 rfl rfl ?_
                                  refine j_if_ne hX (tgt := 226) dX10_twoOf_219 (by decide) (fun hc => ?_) (fun hc => ?_)
                                  · rw [if_neg hc] at h
                                    refine j_iconst hX dX10_twoOf_226 (rc rfl) ?_
                                    refine j_goto hX (tgt := 231) dX10_twoOf_227 (by decide) ?_
                                    cases h
                                    exact j_iret hX hR dX10_twoOf_231
                                  · rw [if_pos hc] at h
                                    refine j_iload_n hX 2 dX10_twoOf_222 rfl rfl ?_
                                    refine j_if_eq hX (tgt := 230) dX10_twoOf_223 (by decide) (fun hc => ?_) (fun hc => ?_)
                                    · rw [if_pos hc] at h
                                      refine j_iconst hX dX10_twoOf_230 (rc rfl) ?_
                                      cases h
                                      exact j_iret hX hR dX10_twoOf_231
                                    · rw [if_neg hc] at h
                                      refine j_iconst hX dX10_twoOf_226 (rc rfl) ?_
                                      refine j_goto hX (tgt := 231) dX10_twoOf_227 (by decide) ?_
                                      cases h
                                      exact j_iret hX hR dX10_twoOf_231
                                · rw [if_neg hc15] at h
                                  by_cases hc16 : a1 = 53
                                  · rw [if_pos hc16] at h
                                    refine j_tin hX (tgt := 218) dX10_twoOf_1 hc16 (by decide) (by decide) rfl (by decide) ?_
                                    refine j_iload_n hX 1 dX10_twoOf_218 rfl rfl ?_
                                    refine j_if_ne hX (tgt := 226) dX10_twoOf_219 (by decide) (fun hc => ?_) (fun hc => ?_)
                                    · rw [if_neg hc] at h
                                      refine j_iconst hX dX10_twoOf_226 (rc rfl) ?_
                                      refine j_goto hX (tgt := 231) dX10_twoOf_227 (by decide) ?_
                                      cases h
                                      exact j_iret hX hR dX10_twoOf_231
                                    · rw [if_pos hc] at h
                                      refine j_iload_n hX 2 dX10_twoOf_222 rfl rfl ?_
                                      refine j_if_eq hX (tgt := 230) dX10_twoOf_223 (by decide) (fun hc => ?_) (fun hc => ?_)
                                      · rw [if_pos hc] at h
                                        refine j_iconst hX dX10_twoOf_230 (rc rfl) ?_
                                        cases h
                                        exact j_iret hX hR dX10_twoOf_231
                                      · rw [if_neg hc] at h
                                        refine j_iconst hX dX10_twoOf_226 (rc rfl) ?_
                                        refine j_goto hX (tgt := 231) dX10_twoOf_227 (by decide) ?_
                                        cases h
                                        exact j_iret hX hR dX10_twoOf_231
                                  · rw [if_neg hc16] at h
                                    by_cases hc17 : a1 = 54
                                    · rw [if_pos hc17] at h
                                      refine j_tin hX (tgt := 218) dX10_twoOf_1 hc17 (by decide) (by decide) rfl (by decide) ?_
                                      refine j_iload_n hX 1 dX10_twoOf_218 rfl rfl ?_
                                      refine j_if_ne hX (tgt := 226) dX10_twoOf_219 (by decide) (fun hc => ?_) (fun hc => ?_)
                                      · rw [if_neg hc] at h
                                        refine j_iconst hX dX10_twoOf_226 (rc rfl) ?_
                                        refine j_goto hX (tgt := 231) dX10_twoOf_227 (by decide) ?_
                                        cases h
                                        exact j_iret hX hR dX10_twoOf_231
                                      · rw [if_pos hc] at h
                                        refine j_iload_n hX 2 dX10_twoOf_222 rfl rfl ?_
                                        refine j_if_eq hX (tgt := 230) dX10_twoOf_223 (by decide) (fun hc => ?_) (fun hc => ?_)
                                        · rw [if_pos hc] at h
                                          refine j_iconst hX dX10_twoOf_230 (rc rfl) ?_
                                          cases h
                                          exact j_iret hX hR dX10_twoOf_231
                                        · rw [if_neg hc] at h
                                          refine j_iconst hX dX10_twoOf_226 (rc rfl) ?_
                                          refine j_goto hX (tgt := 231) dX10_twoOf_227 (by decide) ?_
                                          cases h
                                          exact j_iret hX hR dX10_twoOf_231
                                    · rw [if_neg hc17] at h
                                      by_cases hc18 : a1 = 55
                                      · rw [if_pos hc18] at h
                                        refine j_tin hX (tgt := 218) dX10_twoOf_1 hc18 (by decide) (by decide) rfl (by decide) ?_
                                        refine j_iload_n hX 1 dX10_twoOf_218 rfl rfl ?_
                                        refine j_if_ne hX (tgt := 226) dX10_twoOf_219 (by decide) (fun hc => ?_) (fun hc => ?_)
                                        · rw [if_neg hc] at h
                                          refine j_iconst hX dX10_twoOf_226 (rc rfl) ?_
                                          refine j_goto hX (tgt := 231) dX10_twoOf_227 (by decide) ?_
                                          cases h
                                          exact j_iret hX hR dX10_twoOf_231
                                        · rw [if_pos hc] at h
                                          refine j_iload_n hX 2 dX10_twoOf_222 rfl rfl ?_
                                          refine j_if_eq hX (tgt := 230) dX10_twoOf_223 (by decide) (fun hc => ?_) (fun hc => ?_)
                                          · rw [if_pos hc] at h
                                            refine j_iconst hX dX10_twoOf_230 (rc rfl) ?_
                                            cases h
                                            exact j_iret hX hR dX10_twoOf_231
                                          · rw [if_neg hc] at h
                                            refine j_iconst hX dX10_twoOf_226 (rc rfl) ?_
                                            refine j_goto hX (tgt := 231) dX10_twoOf_227 (by decide) ?_
                                            cases h
                                            exact j_iret hX hR dX10_twoOf_231
                                      · rw [if_neg hc18] at h
                                        by_cases hc19 : a1 = 56
                                        · rw [if_pos hc19] at h
                                          refine j_tin hX (tgt := 218) dX10_twoOf_1 hc19 (by decide) (by decide) rfl (by decide) ?_
                                          refine j_iload_n hX 1 dX10_twoOf_218 rfl rfl ?_
                                          refine j_if_ne hX (tgt := 226) dX10_twoOf_219 (by decide) (fun hc => ?_) (fun hc => ?_)
                                          · rw [if_neg hc] at h
                                            refine j_iconst hX dX10_twoOf_226 (rc rfl) ?_
                                            refine j_goto hX (tgt := 231) dX10_twoOf_227 (by decide) ?_
                                            cases h
                                            exact j_iret hX hR dX10_twoOf_231
                                          · rw [if_pos hc] at h
                                            refine j_iload_n hX 2 dX10_twoOf_222 rfl rfl ?_
                                            refine j_if_eq hX (tgt := 230) dX10_twoOf_223 (by decide) (fun hc => ?_) (fun hc => ?_)
                                            · rw [if_pos hc] at h
                                              refine j_iconst hX dX10_twoOf_230 (rc rfl) ?_
                                              cases h
                                              exact j_iret hX hR dX10_twoOf_231
                                            · rw [if_neg hc] at h
                                              refine j_iconst hX dX10_twoOf_226 (rc rfl) ?_
                                              refine j_goto hX (tgt := 231) dX10_twoOf_227 (by decide) ?_
                                              cases h
                                              exact j_iret hX hR dX10_twoOf_231
                                        · rw [if_neg hc19] at h
                                          by_cases hc20 : a1 = 57
                                          · rw [if_pos hc20] at h
                                            refine j_tin hX (tgt := 218) dX10_twoOf_1 hc20 (by decide) (by decide) rfl (by decide) ?_
                                            refine j_iload_n hX 1 dX10_twoOf_218 rfl rfl ?_
                                            refine j_if_ne hX (tgt := 226) dX10_twoOf_219 (by decide) (fun hc => ?_) (fun hc => ?_)
                                            · rw [if_neg hc] at h
                                              refine j_iconst hX dX10_twoOf_226 (rc rfl) ?_
                                              refine j_goto hX (tgt := 231) dX10_twoOf_227 (by decide) ?_
                                              cases h
                                              exact j_iret hX hR dX10_twoOf_231
                                            · rw [if_pos hc] at h
                                              refine j_iload_n hX 2 dX10_twoOf_222 rfl rfl ?_
                                              refine j_if_eq hX (tgt := 230) dX10_twoOf_223 (by decide) (fun hc => ?_) (fun hc => ?_)
                                              · rw [if_pos hc] at h
                                                refine j_iconst hX dX10_twoOf_230 (rc rfl) ?_
                                                cases h
                                                exact j_iret hX hR dX10_twoOf_231
                                              · rw [if_neg hc] at h
                                                refine j_iconst hX dX10_twoOf_226 (rc rfl) ?_
                                                refine j_goto hX (tgt := 231) dX10_twoOf_227 (by decide) ?_
                                                cases h
                                                exact j_iret hX hR dX10_twoOf_231
                                          · rw [if_neg hc20] at h
                                            by_cases hc21 : a1 = 58
                                            · rw [if_pos hc21] at h
                                              refine j_tin hX (tgt := 218) dX10_twoOf_1 hc21 (by decide) (by decide) rfl (by decide) ?_
                                              refine j_iload_n hX 1 dX10_twoOf_218 rfl rfl ?_
                                              refine j_if_ne hX (tgt := 226) dX10_twoOf_219 (by decide) (fun hc => ?_) (fun hc => ?_)
                                              · rw [if_neg hc] at h
                                                refine j_iconst hX dX10_twoOf_226 (rc rfl) ?_
                                                refine j_goto hX (tgt := 231) dX10_twoOf_227 (by decide) ?_
                                                cases h
                                                exact j_iret hX hR dX10_twoOf_231
                                              · rw [if_pos hc] at h
                                                refine j_iload_n hX 2 dX10_twoOf_222 rfl rfl ?_
                                                refine j_if_eq hX (tgt := 230) dX10_twoOf_223 (by decide) (fun hc => ?_) (fun hc => ?_)
                                                · rw [if_pos hc] at h
                                                  refine j_iconst hX dX10_twoOf_230 (rc rfl) ?_
                                                  cases h
                                                  exact j_iret hX hR dX10_twoOf_231
                                                · rw [if_neg hc] at h
                                                  refine j_iconst hX dX10_twoOf_226 (rc rfl) ?_
                                                  refine j_goto hX (tgt := 231) dX10_twoOf_227 (by decide) ?_
                                                  cases h
                                                  exact j_iret hX hR dX10_twoOf_231
                                            · rw [if_neg hc21] at h
                                              by_cases hc22 : a1 = 59
                                              · rw [if_pos hc22] at h
                                                refine j_tin hX (tgt := 218) dX10_twoOf_1 hc22 (by decide) (by decide) rfl (by decide) ?_
                                                refine j_iload_n hX 1 dX10_twoOf_218 rfl rfl ?_
                                                refine j_if_ne hX (tgt := 226) dX10_twoOf_219 (by decide) (fun hc => ?_) (fun hc => ?_)
                                                · rw [if_neg hc] at h
                                                  refine j_iconst hX dX10_twoOf_226 (rc rfl) ?_
                                                  refine j_goto hX (tgt := 231) dX10_twoOf_227 (by decide) ?_
                                                  cases h
                                                  exact j_iret hX hR dX10_twoOf_231
                                                · rw [if_pos hc] at h
                                                  refine j_iload_n hX 2 dX10_twoOf_222 rfl rfl ?_
                                                  refine j_if_eq hX (tgt := 230) dX10_twoOf_223 (by decide) (fun hc => ?_) (fun hc => ?_)
                                                  · rw [if_pos hc] at h
                                                    refine j_iconst hX dX10_twoOf_230 (rc rfl) ?_
                                                    cases h
                                                    exact j_iret hX hR dX10_twoOf_231
                                                  · rw [if_neg hc] at h
                                                    refine j_iconst hX dX10_twoOf_226 (rc rfl) ?_
                                                    refine j_goto hX (tgt := 231) dX10_twoOf_227 (by decide) ?_
                                                    cases h
                                                    exact j_iret hX hR dX10_twoOf_231
                                              · rw [if_neg hc22] at h
                                                by_cases hc23 : a1 = 60
                                                · rw [if_pos hc23] at h
                                                  refine j_tin hX (tgt := 171) dX10_twoOf_1 hc23 (by decide) (by decide) rfl (by decide) ?_
                                                  refine j_iload_n hX 1 dX10_twoOf_171 rfl rfl ?_
                                                  refine j_iload_n hX 2 dX10_twoOf_172 rfl rfl ?_
                                                  refine j_icmp_ge hX (tgt := 180) dX10_twoOf_173 (by decide) (fun hc => ?_) (fun hc => ?_)
                                                  · rw [if_pos hc] at h
                                                    refine j_iconst hX dX10_twoOf_180 (rc rfl) ?_
                                                    cases h
                                                    exact j_iret hX hR dX10_twoOf_181
                                                  · rw [if_neg hc] at h
                                                    refine j_iconst hX dX10_twoOf_176 (rc rfl) ?_
                                                    refine j_goto hX (tgt := 181) dX10_twoOf_177 (by decide) ?_
                                                    cases h
                                                    exact j_iret hX hR dX10_twoOf_181
                                                · rw [if_neg hc23] at h
                                                  by_cases hc24 : a1 = 61
                                                  · rw [if_pos hc24] at h
                                                    refine j_tin hX (tgt := 182) dX10_twoOf_1 hc24 (by decide) (by decide) rfl (by decide) ?_
                                                    refine j_iload_n hX 1 dX10_twoOf_182 rfl rfl ?_
                                                    refine j_iload_n hX 2 dX10_twoOf_183 rfl rfl ?_
                                                    refine j_icmp_ne hX (tgt := 191) dX10_twoOf_184 (by decide) (fun hc => ?_) (fun hc => ?_)
                                                    · rw [if_neg hc] at h
                                                      refine j_iconst hX dX10_twoOf_191 (rc rfl) ?_
                                                      cases h
                                                      exact j_iret hX hR dX10_twoOf_192
                                                    · rw [if_pos hc] at h
                                                      refine j_iconst hX dX10_twoOf_187 (rc rfl) ?_
                                                      refine j_goto hX (tgt := 192) dX10_twoOf_188 (by decide) ?_
                                                      cases h
                                                      exact j_iret hX hR dX10_twoOf_192
                                                  · rw [if_neg hc24] at h
                                                    by_cases hc25 : a1 = 62
                                                    · rw [if_pos hc25] at h
                                                      refine j_tin hX (tgt := 193) dX10_twoOf_1 hc25 (by decide) (by decide) rfl (by decide) ?_
                                                      refine j_iload_n hX 1 dX10_twoOf_193 rfl rfl ?_
                                                      refine j_iload_n hX 2 dX10_twoOf_194 rfl rfl ?_
                                                      refine j_icmp_le hX (tgt := 202) dX10_twoOf_195 (by decide) (fun hc => ?_) (fun hc => ?_)
                                                      · rw [if_pos hc] at h
                                                        refine j_iconst hX dX10_twoOf_202 (rc rfl) ?_
                                                        cases h
                                                        exact j_iret hX hR dX10_twoOf_203
                                                      · rw [if_neg hc] at h
                                                        refine j_iconst hX dX10_twoOf_198 (rc rfl) ?_
                                                        refine j_goto hX (tgt := 203) dX10_twoOf_199 (by decide) ?_
                                                        cases h
                                                        exact j_iret hX hR dX10_twoOf_203
                                                    · rw [if_neg hc25] at h
                                                      refine j_tout hX (tgt := 218) dX10_twoOf_1 (by omega) (by decide) ?_
                                                      refine j_iload_n hX 1 dX10_twoOf_218 rfl rfl ?_
                                                      refine j_if_ne hX (tgt := 226) dX10_twoOf_219 (by decide) (fun hc => ?_) (fun hc => ?_)
                                                      · rw [if_neg hc] at h
                                                        refine j_iconst hX dX10_twoOf_226 (rc rfl) ?_
                                                        refine j_goto hX (tgt := 231) dX10_twoOf_227 (by decide) ?_
                                                        cases h
                                                        exact j_iret hX hR dX10_twoOf_231
                                                      · rw [if_pos hc] at h
                                                        refine j_iload_n hX 2 dX10_twoOf_222 rfl rfl ?_
                                                        refine j_if_eq hX (tgt := 230) dX10_twoOf_223 (by decide) (fun hc => ?_) (fun hc => ?_)
                                                        · rw [if_pos hc] at h
                                                          refine j_iconst hX dX10_twoOf_230 (rc rfl) ?_
                                                          cases h
                                                          exact j_iret hX hR dX10_twoOf_231
                                                        · rw [if_neg hc] at h
                                                          refine j_iconst hX dX10_twoOf_226 (rc rfl) ?_
                                                          refine j_goto hX (tgt := 231) dX10_twoOf_227 (by decide) ?_
                                                          cases h
                                                          exact j_iret hX hR dX10_twoOf_231
theorem sj_X10_worked_45 {X : K0} {B : Nat → Nat} {n : Nat} {E : Mem → Mem} {r : Int} {S' : Mem} (hX : Ctx X cX10_worked "TelegramFeelingsModel" 2) (hR : CR X (some .int)) (hfl : (gX X).2.2.2.2 = true) (hnl : X.2.2.2.2.2.2.2.2.2.2.2.2.2.2 = 7) (hE : Lens E PM) {c : Int → Int → Mem → Option (Int × Mem)}   {v1 : Int} {v3 : Int} {v4 : Int} {v5 : Int} {v6 : Int} {S : Mem} (Hc : ∀ (v4 : Int) (v5 : Int) (S : Mem), c v4 v5 S = some (r, S') → JW X B n 0 0 12 [(0, vR 56), (1, vI (v1)), (3, vI (v3)), (4, vI (v4)), (5, vI (v5))] [] (E S) (QM X (QcI (gX X) B n r (E S')))) (h : g_X10_worked_J45 c v1 v3 v4 v5 v6 S = some (r, S')) : JW X B n 0 0 45 [(0, vR 56), (1, vI (v1)), (3, vI (v3)), (4, vI (v4)), (5, vI (v5)), (6, vI (v6))] [] (E S) (QM X (QcI (gX X) B n r (E S'))) := by
  unfold g_X10_worked_J45 at h
  refine j_aload_n hX 0 dX10_worked_45 rfl rfl ?_
  refine j_getS (k := 29) hX hfl cbX10 ty56 (by decide) rfl wd1169 rfl sb56_29 dX10_worked_46 ?_
  refine j_iload hX 3 dX10_worked_49 rfl ?_
  refine j_iload hX 5 dX10_worked_51 rfl ?_
  refine j_iconst hX dX10_worked_53 (rc rfl) ?_
  refine j_icmp_ne hX (tgt := 67) dX10_worked_54 (by decide) (fun hc => ?_) (fun hc => ?_)
  · rw [if_neg hc] at h
    refine j_aload_n hX 0 dX10_worked_67 rfl rfl ?_
    refine j_getS (k := 28) hX hfl cbX10 ty56 (by decide) rfl wd1168 rfl sb56_28 dX10_worked_68 ?_
    refine j_aload_n hX 0 dX10_worked_71 rfl rfl ?_
    refine j_getS (k := 24) hX hfl cbX10 ty56 (by decide) rfl wd1164 rfl sb56_24 dX10_worked_72 ?_
    refine j_iload hX 4 dX10_worked_75 rfl ?_
    obtain ⟨x4, hv, h⟩ := bs h
    refine j_iald hX hE ty71 pc71 hv dX10_worked_77 ?_
    obtain ⟨x5, hv, h⟩ := bs h
    refine j_iald hX hE ty75 pc75 hv dX10_worked_78 ?_
    obtain ⟨S6, hv, h⟩ := bs h
    refine j_iast hX hE ty76 pc76 hv dX10_worked_79 ?_
    refine j_iinc (L' := [(4, vI (w32 (v4 + 1))), (0, vR 56), (1, vI (v1)), (3, vI (v3)), (5, vI (v5)), (6, vI (v6))]) hX 3 dX10_worked_80 hnl (by decide) rfl rfl ?_
    refine j_goto hX (tgt := 182) dX10_worked_83 (by decide) ?_
    refine j_iinc (L' := [(5, vI (w32 (v5 + 1))), (4, vI (w32 (v4 + 1))), (0, vR 56), (1, vI (v1)), (3, vI (v3)), (6, vI (v6))]) hX 4 dX10_worked_182 hnl (by decide) rfl rfl ?_
    refine j_goto hX (tgt := 12) dX10_worked_185 (by decide) ?_
    refine j_sub [2, 3, 4, 1, 0] rfl ?_
    exact Hc _ _ _ h
  · rw [if_pos hc] at h
    refine j_aload_n hX 0 dX10_worked_57 rfl rfl ?_
    refine j_getS (k := 24) hX hfl cbX10 ty56 (by decide) rfl wd1164 rfl sb56_24 dX10_worked_58 ?_
    refine j_iload hX 4 dX10_worked_61 rfl ?_
    obtain ⟨x7, hv, h⟩ := bs h
    refine j_iald hX hE ty71 pc71 hv dX10_worked_63 ?_
    refine j_goto hX (tgt := 79) dX10_worked_64 (by decide) ?_
    obtain ⟨S8, hv, h⟩ := bs h
    refine j_iast hX hE ty76 pc76 hv dX10_worked_79 ?_
    refine j_iinc (L' := [(4, vI (w32 (v4 + 1))), (0, vR 56), (1, vI (v1)), (3, vI (v3)), (5, vI (v5)), (6, vI (v6))]) hX 3 dX10_worked_80 hnl (by decide) rfl rfl ?_
    refine j_goto hX (tgt := 182) dX10_worked_83 (by decide) ?_
    refine j_iinc (L' := [(5, vI (w32 (v5 + 1))), (4, vI (w32 (v4 + 1))), (0, vR 56), (1, vI (v1)), (3, vI (v3)), (6, vI (v6))]) hX 4 dX10_worked_182 hnl (by decide) rfl rfl ?_
    refine j_goto hX (tgt := 12) dX10_worked_185 (by decide) ?_
    refine j_sub [2, 3, 4, 1, 0] rfl ?_
    exact Hc _ _ _ h
theorem sl_X10_worked_12 {X : K0} {B : Nat → Nat} {n : Nat} {E : Mem → Mem} {r : Int} {S' : Mem} (hX : Ctx X cX10_worked "TelegramFeelingsModel" 2) (hR : CR X (some .int)) (hfl : (gX X).2.2.2.2 = true) (hnl : X.2.2.2.2.2.2.2.2.2.2.2.2.2.2 = 7) (hE : Lens E PM)  {v1 : Int} {v3 : Int}  : ∀ (fu : Nat) (v4 : Int) (v5 : Int) (S : Mem), g_X10_worked_L12 v1 v3 fu v4 v5 S = some (r, S') → JW X B n 0 0 12 [(0, vR 56), (1, vI (v1)), (3, vI (v3)), (4, vI (v4)), (5, vI (v5))] [] (E S) (QM X (QcI (gX X) B n r (E S'))) := by
  intro fu
  induction fu with
  | zero =>
    intro v4 v5 S h
    rw [g_X10_worked_L12] at h
    cases h
  | succ fu ih =>
    intro v4 v5 S h
    rw [g_X10_worked_L12] at h
    refine j_iload hX 4 dX10_worked_12 rfl ?_
    refine j_sipush hX dX10_worked_14 (rc rfl) (by decide) ?_
    refine j_iload_n hX 1 dX10_worked_17 rfl rfl ?_
    refine j_imul hX dX10_worked_18 ?_
    refine j_iload_n hX 2 dX10_worked_19 rfl rfl ?_
    refine j_iadd hX dX10_worked_20 ?_
    refine j_icmp_ge hX (tgt := 188) dX10_worked_21 (by decide) (fun hc => ?_) (fun hc => ?_)
    · rw [if_pos hc] at h
      refine j_aload_n hX 0 dX10_worked_188 rfl rfl ?_
      refine j_getS (k := 29) hX hfl cbX10 ty56 (by decide) rfl wd1169 rfl sb56_29 dX10_worked_189 ?_
      refine j_iconst hX dX10_worked_192 (rc rfl) ?_
      refine j_iald hX hE ty76 pc76 (ldk_c (k := 0) (by decide)) dX10_worked_193 ?_
      cases h
      exact j_iret hX hR dX10_worked_194
    · rw [if_neg hc] at h
      refine j_aload_n hX 0 dX10_worked_24 rfl rfl ?_
      refine j_getS (k := 23) hX hfl cbX10 ty56 (by decide) rfl wd1163 rfl sb56_23 dX10_worked_25 ?_
      refine j_iload hX 4 dX10_worked_28 rfl ?_
      obtain ⟨x3, hv, h⟩ := bs h
      refine j_bald hX hE ty70 pc70 hv dX10_worked_30 ?_
      refine j_istore (L' := [(6, vI (x3)), (0, vR 56), (1, vI (v1)), (3, vI (v3)), (4, vI (v4)), (5, vI (v5))]) hX dX10_worked_31 hnl (by decide) rfl ?_
      refine j_iload hX 0 dX10_worked_33 rfl ?_
      refine j_iconst hX dX10_worked_35 (rc rfl) ?_
      refine j_icmp_eq hX (tgt := 45) dX10_worked_36 (by decide) (fun hc => ?_) (fun hc => ?_)
      · rw [if_pos hc] at h
        refine j_sub [1, 2, 3, 4, 5, 0] rfl ?_
        exact sj_X10_worked_45 hX hR hfl hnl hE ih  h
      · rw [if_neg hc] at h
        refine j_iload hX 0 dX10_worked_39 rfl ?_
        refine j_iconst hX dX10_worked_41 (rc rfl) ?_
        refine j_icmp_ne hX (tgt := 86) dX10_worked_42 (by decide) (fun hc => ?_) (fun hc => ?_)
        · rw [if_neg hc] at h
          refine j_iload hX 0 dX10_worked_86 rfl ?_
          refine j_iconst hX dX10_worked_88 (rc rfl) ?_
          refine j_icmp_ne hX (tgt := 121) dX10_worked_89 (by decide) (fun hc => ?_) (fun hc => ?_)
          · rw [if_neg hc] at h
            refine j_iload hX 0 dX10_worked_121 rfl ?_
            refine j_iconst hX dX10_worked_123 (rc rfl) ?_
            refine j_icmp_ne hX (tgt := 149) dX10_worked_124 (by decide) (fun hc => ?_) (fun hc => ?_)
            · rw [if_neg hc] at h
              refine j_iinc (L' := [(4, vI (w32 (v4 + (-1)))), (6, vI (x3)), (0, vR 56), (1, vI (v1)), (3, vI (v3)), (5, vI (v5))]) hX 4 dX10_worked_149 hnl (by decide) rfl rfl ?_
              refine j_aload_n hX 2 dX10_worked_152 rfl rfl ?_
              refine j_getS (k := 29) hX hfl cbX10 ty56 (by decide) rfl wd1169 rfl sb56_29 dX10_worked_153 ?_
              refine j_iload hX 0 dX10_worked_156 rfl ?_
              refine j_iconst hX dX10_worked_158 (rc rfl) ?_
              refine j_isub hX dX10_worked_159 ?_
              refine j_iload hX 1 dX10_worked_160 rfl ?_
              refine j_aload_n hX 2 dX10_worked_162 rfl rfl ?_
              refine j_getS (k := 29) hX hfl cbX10 ty56 (by decide) rfl wd1169 rfl sb56_29 dX10_worked_163 ?_
              refine j_iload hX 0 dX10_worked_166 rfl ?_
              refine j_iconst hX dX10_worked_168 (rc rfl) ?_
              refine j_isub hX dX10_worked_169 ?_
              obtain ⟨x9, hv, h⟩ := bs h
              refine j_iald hX hE ty76 pc76 hv dX10_worked_170 ?_
              refine j_aload_n hX 2 dX10_worked_171 rfl rfl ?_
              refine j_getS (k := 29) hX hfl cbX10 ty56 (by decide) rfl wd1169 rfl sb56_29 dX10_worked_172 ?_
              refine j_iload hX 0 dX10_worked_175 rfl ?_
              obtain ⟨x10, hv, h⟩ := bs h
              refine j_iald hX hE ty76 pc76 hv dX10_worked_177 ?_
              obtain ⟨x11, h1, h⟩ := bs h
              refine j_callSI hX mwX10_twoOf msX10_twoOf wd1468 hyX10_twoOf (by omega) (by decide) ⟨Nat.zero_le _, Nat.zero_le _⟩ dX10_worked_178 (s_X10_twoOf hfl h1) npX10_twoOf rfl (Nat.le_of_ble_eq_true rfl) ?_
              obtain ⟨S12, hv, h⟩ := bs h
              refine j_iast hX hE ty76 pc76 hv dX10_worked_181 ?_
              refine j_iinc (L' := [(5, vI (w32 (v5 + 1))), (4, vI (w32 (v4 + (-1)))), (6, vI (x3)), (0, vR 56), (1, vI (v1)), (3, vI (v3))]) hX 5 dX10_worked_182 hnl (by decide) rfl rfl ?_
              refine j_goto hX (tgt := 12) dX10_worked_185 (by decide) ?_
              refine j_sub [3, 4, 5, 1, 0] rfl ?_
              exact ih _ _ _ h
            · rw [if_pos hc] at h
              refine j_aload_n hX 1 dX10_worked_127 rfl rfl ?_
              refine j_getS (k := 29) hX hfl cbX10 ty56 (by decide) rfl wd1169 rfl sb56_29 dX10_worked_128 ?_
              refine j_iload hX 4 dX10_worked_131 rfl ?_
              refine j_iconst hX dX10_worked_133 (rc rfl) ?_
              refine j_isub hX dX10_worked_134 ?_
              refine j_aload_n hX 1 dX10_worked_135 rfl rfl ?_
              refine j_getS (k := 29) hX hfl cbX10 ty56 (by decide) rfl wd1169 rfl sb56_29 dX10_worked_136 ?_
              refine j_iload hX 4 dX10_worked_139 rfl ?_
              refine j_iconst hX dX10_worked_141 (rc rfl) ?_
              refine j_isub hX dX10_worked_142 ?_
              obtain ⟨x13, hv, h⟩ := bs h
              refine j_iald hX hE ty76 pc76 hv dX10_worked_143 ?_
              refine j_ineg hX dX10_worked_144 ?_
              obtain ⟨S14, hv, h⟩ := bs h
              refine j_iast hX hE ty76 pc76 hv dX10_worked_145 ?_
              refine j_goto hX (tgt := 182) dX10_worked_146 (by decide) ?_
              refine j_iinc (L' := [(5, vI (w32 (v5 + 1))), (6, vI (x3)), (0, vR 56), (1, vI (v1)), (3, vI (v3)), (4, vI (v4))]) hX 5 dX10_worked_182 hnl (by decide) rfl rfl ?_
              refine j_goto hX (tgt := 12) dX10_worked_185 (by decide) ?_
              refine j_sub [2, 3, 4, 5, 0] rfl ?_
              exact ih _ _ _ h
          · rw [if_pos hc] at h
            refine j_aload_n hX 1 dX10_worked_92 rfl rfl ?_
            refine j_getS (k := 29) hX hfl cbX10 ty56 (by decide) rfl wd1169 rfl sb56_29 dX10_worked_93 ?_
            refine j_iload hX 4 dX10_worked_96 rfl ?_
            refine j_iconst hX dX10_worked_98 (rc rfl) ?_
            refine j_isub hX dX10_worked_99 ?_
            refine j_aload_n hX 1 dX10_worked_100 rfl rfl ?_
            refine j_getS (k := 29) hX hfl cbX10 ty56 (by decide) rfl wd1169 rfl sb56_29 dX10_worked_101 ?_
            refine j_iload hX 4 dX10_worked_104 rfl ?_
            refine j_iconst hX dX10_worked_106 (rc rfl) ?_
            refine j_isub hX dX10_worked_107 ?_
            obtain ⟨x15, hv, h⟩ := bs h
            refine j_iald hX hE ty76 pc76 hv dX10_worked_108 ?_
            refine j_if_ne hX (tgt := 116) dX10_worked_109 (by decide) (fun hc => ?_) (fun hc => ?_)
            · rw [if_neg hc] at h
              refine j_iconst hX dX10_worked_116 (rc rfl) ?_
              obtain ⟨S16, hv, h⟩ := bs h
              refine j_iast hX hE ty76 pc76 hv dX10_worked_117 ?_
              refine j_goto hX (tgt := 182) dX10_worked_118 (by decide) ?_
              refine j_iinc (L' := [(5, vI (w32 (v5 + 1))), (6, vI (x3)), (0, vR 56), (1, vI (v1)), (3, vI (v3)), (4, vI (v4))]) hX 5 dX10_worked_182 hnl (by decide) rfl rfl ?_
              refine j_goto hX (tgt := 12) dX10_worked_185 (by decide) ?_
              refine j_sub [2, 3, 4, 5, 0] rfl ?_
              exact ih _ _ _ h
            · rw [if_pos hc] at h
              refine j_iconst hX dX10_worked_112 (rc rfl) ?_
              refine j_goto hX (tgt := 117) dX10_worked_113 (by decide) ?_
              obtain ⟨S17, hv, h⟩ := bs h
              refine j_iast hX hE ty76 pc76 hv dX10_worked_117 ?_
              refine j_goto hX (tgt := 182) dX10_worked_118 (by decide) ?_
              refine j_iinc (L' := [(5, vI (w32 (v5 + 1))), (6, vI (x3)), (0, vR 56), (1, vI (v1)), (3, vI (v3)), (4, vI (v4))]) hX 5 dX10_worked_182 hnl (by decide) rfl rfl ?_
              refine j_goto hX (tgt := 12) dX10_worked_185 (by decide) ?_
              refine j_sub [2, 3, 4, 5, 0] rfl ?_
              exact ih _ _ _ h
        · rw [if_pos hc] at h
          refine j_sub [1, 2, 3, 4, 5, 0] rfl ?_
          exact sj_X10_worked_45 hX hR hfl hnl hE ih  h
theorem s_X10_worked {g : G0} {B : Nat → Nat} {n : Nat} {E : Mem → Mem} {a1 : Int} {a2 : Int} {a3 : Int} {S : Mem} {r : Int} {S' : Mem} (hfl : g.2.2.2.2 = true) (hE : Lens E PM) (h : g_X10_worked a1 a2 a3 S = some (r, S')) : Cn g B n yX10_worked cX10_worked 7 (some .int) 2 [vR 56, vI (a1), vI (a2), vI (a3)] (E S) (QcI g B n r (E S')) := by
  refine Cn.of (by decide +kernel) (Nat.le_of_ble_eq_true rfl) (fun X hg hnl hX hR => ?_)
  subst hg
  have hX : Ctx X cX10_worked "TelegramFeelingsModel" 2 := hX
  unfold g_X10_worked at h
  show JW X B n 0 0 0 [(0, vR 56), (1, vI (a1)), (2, vI (a2)), (3, vI (a3))] [] (E S) (QM X (QcI (gX X) B n r (E S')))
  refine j_iconst hX dX10_worked_0 (rc rfl) ?_
  refine j_istore (L' := [(4, vI (0)), (0, vR 56), (1, vI (a1)), (2, vI (a2)), (3, vI (a3))]) hX dX10_worked_1 hnl (by decide) rfl ?_
  refine j_sipush hX dX10_worked_3 (rc rfl) (by decide) ?_
  refine j_iload_n hX 2 dX10_worked_6 rfl rfl ?_
  refine j_imul hX dX10_worked_7 ?_
  refine j_iload_n hX 3 dX10_worked_8 rfl rfl ?_
  refine j_iadd hX dX10_worked_9 ?_
  obtain ⟨x1, hx, h⟩ := ap_s h
  rw [← hx]
  clear hx
  refine j_istore (L' := [(5, vI (x1)), (4, vI (0)), (0, vR 56), (1, vI (a1)), (2, vI (a2)), (3, vI (a3))]) hX dX10_worked_10 hnl (by decide) rfl ?_
  refine j_sub [2, 3, 5, 1, 0] rfl ?_
  refine sl_X10_worked_12 hX hR hfl hnl hE  _ _ _ _ h
theorem sl_X10_gives_7 {X : K0} {B : Nat → Nat} {n : Nat} {E : Mem → Mem} {r : Int} {S' : Mem} (hX : Ctx X cX10_gives "TelegramFeelingsModel" 3) (hR : CR X (some .int)) (hfl : (gX X).2.2.2.2 = true) (hnl : X.2.2.2.2.2.2.2.2.2.2.2.2.2.2 = 4) (hE : Lens E PM) {k47 : Int → Mem → Option (Int × Mem)} {v1 : Int} (K47 : ∀ (v3 : Int) (S : Mem), k47 v3 S = some (r, S') → JW X B n 0 0 47 [(0, vR 56), (1, vI (v1)), (3, vI (v3))] [] (E S) (QM X (QcI (gX X) B n r (E S')))) : ∀ (fu : Nat) (v2 : Int) (v3 : Int) (S : Mem), g_X10_gives_L7 k47 v1 fu v2 v3 S = some (r, S') → JW X B n 0 0 7 [(0, vR 56), (1, vI (v1)), (2, vI (v2)), (3, vI (v3))] [] (E S) (QM X (QcI (gX X) B n r (E S'))) := by
  intro fu
  induction fu with
  | zero =>
    intro v2 v3 S h
    rw [g_X10_gives_L7] at h
    cases h
  | succ fu ih =>
    intro v2 v3 S h
    rw [g_X10_gives_L7] at h
    refine j_iload_n hX 3 dX10_gives_7 rfl rfl ?_
    refine j_bipush hX dX10_gives_8 (rc rfl) (by decide) ?_
    refine j_iload_n hX 1 dX10_gives_10 rfl rfl ?_
    refine j_imul hX dX10_gives_11 ?_
    refine j_aload_n hX 0 dX10_gives_12 rfl rfl ?_
    refine j_getS (k := 25) hX hfl cbX10 ty56 (by decide) rfl wd1165 rfl sb56_25 dX10_gives_13 ?_
    refine j_iload_n hX 1 dX10_gives_16 rfl rfl ?_
    obtain ⟨x1, hv, h⟩ := bs h
    refine j_iald hX hE ty72 pc72 hv dX10_gives_17 ?_
    refine j_iadd hX dX10_gives_18 ?_
    refine j_icmp_ge hX (tgt := 78) dX10_gives_19 (by decide) (fun hc => ?_) (fun hc => ?_)
    · rw [if_pos hc] at h
      refine j_iconst hX dX10_gives_78 (rc rfl) ?_
      cases h
      exact j_iret hX hR dX10_gives_79
    · rw [if_neg hc] at h
      refine j_aload_n hX 0 dX10_gives_22 rfl rfl ?_
      refine j_getS (k := 26) hX hfl cbX10 ty56 (by decide) rfl wd1166 rfl sb56_26 dX10_gives_23 ?_
      refine j_iload_n hX 3 dX10_gives_26 rfl rfl ?_
      obtain ⟨x2, hv, h⟩ := bs h
      refine j_sald hX hE ty73 pc73 hv dX10_gives_27 ?_
      refine j_iload_n hX 2 dX10_gives_28 rfl rfl ?_
      refine j_icmp_eq hX (tgt := 47) dX10_gives_29 (by decide) (fun hc => ?_) (fun hc => ?_)
      · rw [if_pos hc] at h
        refine j_sub [0, 1, 3] rfl ?_
        exact K47 _ _ h
      · rw [if_neg hc] at h
        refine j_aload_n hX 0 dX10_gives_32 rfl rfl ?_
        refine j_iload_n hX 1 dX10_gives_33 rfl rfl ?_
        refine j_iload_n hX 2 dX10_gives_34 rfl rfl ?_
        refine j_aload_n hX 0 dX10_gives_35 rfl rfl ?_
        refine j_getS (k := 26) hX hfl cbX10 ty56 (by decide) rfl wd1166 rfl sb56_26 dX10_gives_36 ?_
        refine j_iload_n hX 3 dX10_gives_39 rfl rfl ?_
        obtain ⟨x3, hv, h⟩ := bs h
        refine j_sald hX hE ty73 pc73 hv dX10_gives_40 ?_
        obtain ⟨x5, S4, h1, h⟩ := bd2_s h
        refine j_callVI hX mwX10_worked miX10_worked wd1464 cbX10 ty56 hyX10_worked (by omega) (by decide) ⟨Nat.zero_le _, Nat.zero_le _⟩ dX10_gives_41 (s_X10_worked hfl hE h1) npX10_worked rfl (Nat.le_of_ble_eq_true rfl) ?_
        refine j_if_eq hX (tgt := 65) dX10_gives_44 (by decide) (fun hc => ?_) (fun hc => ?_)
        · rw [if_pos hc] at h
          refine j_aload_n hX 0 dX10_gives_65 rfl rfl ?_
          refine j_getS (k := 27) hX hfl cbX10 ty56 (by decide) rfl wd1167 rfl sb56_27 dX10_gives_66 ?_
          refine j_iload_n hX 3 dX10_gives_69 rfl rfl ?_
          obtain ⟨x6, hv, h⟩ := bs h
          refine j_sald hX hE ty74 pc74 hv dX10_gives_70 ?_
          refine j_istore_n (L' := [(2, vI (x6)), (0, vR 56), (1, vI (v1)), (3, vI (v3))]) hX dX10_gives_71 rfl hnl (by decide) rfl ?_
          refine j_iinc (L' := [(3, vI (w32 (v3 + 1))), (2, vI (x6)), (0, vR 56), (1, vI (v1))]) hX 3 dX10_gives_72 hnl (by decide) rfl rfl ?_
          refine j_goto hX (tgt := 7) dX10_gives_75 (by decide) ?_
          refine j_sub [2, 3, 1, 0] rfl ?_
          exact ih _ _ _ h
        · rw [if_neg hc] at h
          refine j_sub [0, 1, 3] rfl ?_
          exact K47 _ _ h
theorem s_X10_gives {g : G0} {B : Nat → Nat} {n : Nat} {E : Mem → Mem} {a1 : Int} {S : Mem} {r : Int} {S' : Mem} (hfl : g.2.2.2.2 = true) (hE : Lens E PM) (h : g_X10_gives a1 S = some (r, S')) : Cn g B n yX10_gives cX10_gives 4 (some .int) 3 [vR 56, vI (a1)] (E S) (QcI g B n r (E S')) := by
  refine Cn.of (by decide +kernel) (Nat.le_of_ble_eq_true rfl) (fun X hg hnl hX hR => ?_)
  subst hg
  have hX : Ctx X cX10_gives "TelegramFeelingsModel" 3 := hX
  unfold g_X10_gives at h
  show JW X B n 0 0 0 [(0, vR 56), (1, vI (a1))] [] (E S) (QM X (QcI (gX X) B n r (E S')))
  refine j_iconst hX dX10_gives_0 (rc rfl) ?_
  refine j_istore_n (L' := [(2, vI (0)), (0, vR 56), (1, vI (a1))]) hX dX10_gives_1 rfl hnl (by decide) rfl ?_
  refine j_bipush hX dX10_gives_2 (rc rfl) (by decide) ?_
  refine j_iload_n hX 2 dX10_gives_4 rfl rfl ?_
  refine j_imul hX dX10_gives_5 ?_
  refine j_istore_n (L' := [(3, vI (w32 (61 * a1))), (2, vI (0)), (0, vR 56), (1, vI (a1))]) hX dX10_gives_6 rfl hnl (by decide) rfl ?_
  refine j_sub [2, 3, 1, 0] rfl ?_
  refine sl_X10_gives_7 hX hR hfl hnl hE (fun y8 S7 h => ?_) _ _ _ _ h
  refine j_aload_n hX 0 dX10_gives_47 rfl rfl ?_
  refine j_iload_n hX 1 dX10_gives_48 rfl rfl ?_
  refine j_aload_n hX 0 dX10_gives_49 rfl rfl ?_
  refine j_getS (k := 26) hX hfl cbX10 ty56 (by decide) rfl wd1166 rfl sb56_26 dX10_gives_50 ?_
  refine j_iload_n hX 2 dX10_gives_53 rfl rfl ?_
  obtain ⟨x9, hv, h⟩ := bs h
  refine j_sald hX hE ty73 pc73 hv dX10_gives_54 ?_
  refine j_aload_n hX 0 dX10_gives_55 rfl rfl ?_
  refine j_getS (k := 27) hX hfl cbX10 ty56 (by decide) rfl wd1167 rfl sb56_27 dX10_gives_56 ?_
  refine j_iload_n hX 2 dX10_gives_59 rfl rfl ?_
  obtain ⟨x10, hv, h⟩ := bs h
  refine j_sald hX hE ty74 pc74 hv dX10_gives_60 ?_
  obtain ⟨x12, S11, h1, h⟩ := bd2_s h
  refine j_callVI hX mwX10_worked miX10_worked wd1464 cbX10 ty56 hyX10_worked (by omega) (by decide) ⟨Nat.zero_le _, Nat.zero_le _⟩ dX10_gives_61 (s_X10_worked hfl hE h1) npX10_worked rfl (Nat.le_of_ble_eq_true rfl) ?_
  cases h
  exact j_iret hX hR dX10_gives_64
theorem s_X10_law {g : G0} {B : Nat → Nat} {n : Nat} {E : Mem → Mem}  {S : Mem} {r : Int} {S' : Mem} (hfl : g.2.2.2.2 = true) (hE : Lens E PM) (h : g_X10_law S = some (r, S')) : Cn g B n yX10_law cX10_law 2 (some .int) 68 [vR 56] (E S) (QcI g B n r (E S')) := by
  refine Cn.of (by decide +kernel) (Nat.le_of_ble_eq_true rfl) (fun X hg hnl hX hR => ?_)
  subst hg
  have hX : Ctx X cX10_law "TelegramFeelingsModel" 68 := hX
  unfold g_X10_law at h
  show JW X B n 0 0 0 [(0, vR 56)] [] (E S) (QM X (QcI (gX X) B n r (E S')))
  refine j_aload_n hX 0 dX10_law_0 rfl rfl ?_
  refine j_iconst hX dX10_law_1 (rc rfl) ?_
  obtain ⟨x2, S1, h1, h⟩ := bd2_s h
  refine j_callVI hX mwX10_readText miX10_readText wd1397 cbX10 ty56 hyX10_readText (by omega) (by decide) ⟨Nat.zero_le _, Nat.zero_le _⟩ dX10_law_2 (s_X10_readText hfl hE h1) npX10_readText rfl (Nat.le_of_ble_eq_true rfl) ?_
  refine j_istore_n (L' := [(1, vI (x2)), (0, vR 56)]) hX dX10_law_5 rfl hnl (by decide) rfl ?_
  refine j_iload_n hX 0 dX10_law_6 rfl rfl ?_
  refine j_if_lt hX (tgt := 15) dX10_law_7 (by decide) (fun hc => ?_) (fun hc => ?_)
  · rw [if_pos hc] at h
    refine j_aload_n hX 1 dX10_law_15 rfl rfl ?_
    refine j_iconst hX dX10_law_16 (rc rfl) ?_
    refine j_putI (k := 30) hX hE cbX10 ty56 pc56 (by decide) rfl wd1170 rfl (Or.inr ⟨rfl, Or.inr rfl⟩) rfl dX10_law_17 ?_
    obtain ⟨S3, hx, h⟩ := ap_s h
    rw [← hx]
    clear hx
    refine j_iconst hX dX10_law_20 (rc rfl) ?_
    cases h
    exact j_iret hX hR dX10_law_21
  · rw [if_neg hc] at h
    refine j_bipush hX dX10_law_10 (rc rfl) (by decide) ?_
    refine j_iload_n hX 0 dX10_law_12 rfl rfl ?_
    refine j_isub hX dX10_law_13 ?_
    cases h
    exact j_iret hX hR dX10_law_14
theorem sj_X10_priceIn_27 {X : K0} {B : Nat → Nat} {n : Nat} {E : Mem → Mem} {r : Int} {S' : Mem} (hX : Ctx X cX10_priceIn "TelegramFeelingsModel" 4) (hR : CR X (some .int)) (hfl : (gX X).2.2.2.2 = true) (hnl : X.2.2.2.2.2.2.2.2.2.2.2.2.2.2 = 5) (hE : Lens E PM)   {v1 : Int} {v2 : Int} {v3 : Int} {s0 : Int} {S : Mem} (h : g_X10_priceIn_J27 v1 v2 v3 s0 S = some (r, S')) : JW X B n 0 0 27 [(0, vR 56), (1, vI (v1)), (2, vI (v2)), (3, vI (v3))] [vI (s0)] (E S) (QM X (QcI (gX X) B n r (E S'))) := by
  unfold g_X10_priceIn_J27 at h
  refine j_istore (L' := [(4, vI (s0)), (0, vR 56), (1, vI (v1)), (2, vI (v2)), (3, vI (v3))]) hX dX10_priceIn_27 hnl (by decide) rfl ?_
  refine j_aload_n hX 1 dX10_priceIn_29 rfl rfl ?_
  refine j_getI (k := 30) hX hE cbX10 ty56 pc56 (by decide) rfl wd1170 rfl dX10_priceIn_30 ?_
  refine j_if_eq hX (tgt := 100) dX10_priceIn_33 (by decide) (fun hc => ?_) (fun hc => ?_)
  · rw [if_pos hc] at h
    refine j_iload hX 0 dX10_priceIn_100 rfl ?_
    refine j_if_ge hX (tgt := 109) dX10_priceIn_102 (by decide) (fun hc => ?_) (fun hc => ?_)
    · rw [if_pos hc] at h
      refine j_iload hX 0 dX10_priceIn_109 rfl ?_
      refine j_bipush hX dX10_priceIn_111 (rc rfl) (by decide) ?_
      refine j_icmp_le hX (tgt := 121) dX10_priceIn_113 (by decide) (fun hc => ?_) (fun hc => ?_)
      · rw [if_pos hc] at h
        refine j_iload hX 0 dX10_priceIn_121 rfl ?_
        cases h
        exact j_iret hX hR dX10_priceIn_123
      · rw [if_neg hc] at h
        refine j_bipush hX dX10_priceIn_116 (rc rfl) (by decide) ?_
        refine j_goto hX (tgt := 123) dX10_priceIn_118 (by decide) ?_
        cases h
        exact j_iret hX hR dX10_priceIn_123
    · rw [if_neg hc] at h
      refine j_iconst hX dX10_priceIn_105 (rc rfl) ?_
      refine j_goto hX (tgt := 123) dX10_priceIn_106 (by decide) ?_
      cases h
      exact j_iret hX hR dX10_priceIn_123
  · rw [if_neg hc] at h
    refine j_aload_n hX 1 dX10_priceIn_36 rfl rfl ?_
    refine j_getS (k := 28) hX hfl cbX10 ty56 (by decide) rfl wd1168 rfl sb56_28 dX10_priceIn_37 ?_
    refine j_iconst hX dX10_priceIn_40 (rc rfl) ?_
    refine j_aload_n hX 1 dX10_priceIn_41 rfl rfl ?_
    refine j_getS (k := 2) hX hfl cbX10 ty56 (by decide) rfl wd1142 rfl sb56_2 dX10_priceIn_42 ?_
    refine j_iload_n hX 2 dX10_priceIn_45 rfl rfl ?_
    obtain ⟨x3, hv, h⟩ := bs h
    refine j_iald hX hE ty57 pc57 hv dX10_priceIn_46 ?_
    refine j_iast hX hE ty75 pc75 (stk_c (k := 0) (by decide)) dX10_priceIn_47 ?_
    obtain ⟨S4, hx, h⟩ := ap_s h
    rw [← hx]
    clear hx
    refine j_aload_n hX 1 dX10_priceIn_48 rfl rfl ?_
    refine j_getS (k := 28) hX hfl cbX10 ty56 (by decide) rfl wd1168 rfl sb56_28 dX10_priceIn_49 ?_
    refine j_iconst hX dX10_priceIn_52 (rc rfl) ?_
    refine j_aload_n hX 1 dX10_priceIn_53 rfl rfl ?_
    refine j_getS (k := 4) hX hfl cbX10 ty56 (by decide) rfl wd1144 rfl sb56_4 dX10_priceIn_54 ?_
    refine j_iload_n hX 2 dX10_priceIn_57 rfl rfl ?_
    obtain ⟨x5, hv, h⟩ := bs h
    refine j_iald hX hE ty59 pc59 hv dX10_priceIn_58 ?_
    refine j_iast hX hE ty75 pc75 (stk_c (k := 1) (by decide)) dX10_priceIn_59 ?_
    obtain ⟨S6, hx, h⟩ := ap_s h
    rw [← hx]
    clear hx
    refine j_aload_n hX 1 dX10_priceIn_60 rfl rfl ?_
    refine j_getS (k := 28) hX hfl cbX10 ty56 (by decide) rfl wd1168 rfl sb56_28 dX10_priceIn_61 ?_
    refine j_iconst hX dX10_priceIn_64 (rc rfl) ?_
    refine j_iload_n hX 3 dX10_priceIn_65 rfl rfl ?_
    refine j_iast hX hE ty75 pc75 (stk_c (k := 2) (by decide)) dX10_priceIn_66 ?_
    obtain ⟨S7, hx, h⟩ := ap_s h
    rw [← hx]
    clear hx
    refine j_aload_n hX 1 dX10_priceIn_67 rfl rfl ?_
    refine j_getS (k := 28) hX hfl cbX10 ty56 (by decide) rfl wd1168 rfl sb56_28 dX10_priceIn_68 ?_
    refine j_iconst hX dX10_priceIn_71 (rc rfl) ?_
    refine j_iload_n hX 4 dX10_priceIn_72 rfl rfl ?_
    refine j_iast hX hE ty75 pc75 (stk_c (k := 3) (by decide)) dX10_priceIn_73 ?_
    obtain ⟨S8, hx, h⟩ := ap_s h
    rw [← hx]
    clear hx
    refine j_aload_n hX 1 dX10_priceIn_74 rfl rfl ?_
    refine j_getS (k := 28) hX hfl cbX10 ty56 (by decide) rfl wd1168 rfl sb56_28 dX10_priceIn_75 ?_
    refine j_iconst hX dX10_priceIn_78 (rc rfl) ?_
    refine j_aload_n hX 1 dX10_priceIn_79 rfl rfl ?_
    refine j_getS (k := 10) hX hfl cbX10 ty56 (by decide) rfl wd1150 rfl sb56_10 dX10_priceIn_80 ?_
    refine j_iconst hX dX10_priceIn_83 (rc rfl) ?_
    refine j_iald hX hE ty64 pc64 (ldk_c (k := 0) (by decide)) dX10_priceIn_84 ?_
    refine j_iast hX hE ty75 pc75 (stk_c (k := 4) (by decide)) dX10_priceIn_85 ?_
    obtain ⟨S10, hx, h⟩ := ap_s h
    rw [← hx]
    clear hx
    refine j_aload_n hX 1 dX10_priceIn_86 rfl rfl ?_
    refine j_getS (k := 28) hX hfl cbX10 ty56 (by decide) rfl wd1168 rfl sb56_28 dX10_priceIn_87 ?_
    refine j_iconst hX dX10_priceIn_90 (rc rfl) ?_
    refine j_iload_n hX 2 dX10_priceIn_91 rfl rfl ?_
    refine j_iast hX hE ty75 pc75 (stk_c (k := 5) (by decide)) dX10_priceIn_92 ?_
    obtain ⟨S11, hx, h⟩ := ap_s h
    rw [← hx]
    clear hx
    refine j_aload_n hX 1 dX10_priceIn_93 rfl rfl ?_
    refine j_iconst hX dX10_priceIn_94 (rc rfl) ?_
    obtain ⟨x13, S12, h1, h⟩ := bd2_s h
    refine j_callVI hX mwX10_gives miX10_gives wd1460 cbX10 ty56 hyX10_gives (by omega) (by decide) ⟨Nat.zero_le _, Nat.zero_le _⟩ dX10_priceIn_95 (s_X10_gives hfl hE h1) npX10_gives rfl (Nat.le_of_ble_eq_true rfl) ?_
    refine j_istore (L' := [(4, vI (x13)), (0, vR 56), (1, vI (v1)), (2, vI (v2)), (3, vI (v3))]) hX dX10_priceIn_98 hnl (by decide) rfl ?_
    refine j_iload hX 0 dX10_priceIn_100 rfl ?_
    refine j_if_ge hX (tgt := 109) dX10_priceIn_102 (by decide) (fun hc => ?_) (fun hc => ?_)
    · rw [if_pos hc] at h
      refine j_iload hX 0 dX10_priceIn_109 rfl ?_
      refine j_bipush hX dX10_priceIn_111 (rc rfl) (by decide) ?_
      refine j_icmp_le hX (tgt := 121) dX10_priceIn_113 (by decide) (fun hc => ?_) (fun hc => ?_)
      · rw [if_pos hc] at h
        refine j_iload hX 0 dX10_priceIn_121 rfl ?_
        cases h
        exact j_iret hX hR dX10_priceIn_123
      · rw [if_neg hc] at h
        refine j_bipush hX dX10_priceIn_116 (rc rfl) (by decide) ?_
        refine j_goto hX (tgt := 123) dX10_priceIn_118 (by decide) ?_
        cases h
        exact j_iret hX hR dX10_priceIn_123
    · rw [if_neg hc] at h
      refine j_iconst hX dX10_priceIn_105 (rc rfl) ?_
      refine j_goto hX (tgt := 123) dX10_priceIn_106 (by decide) ?_
      cases h
      exact j_iret hX hR dX10_priceIn_123
theorem s_X10_priceIn {g : G0} {B : Nat → Nat} {n : Nat} {E : Mem → Mem} {a1 : Int} {a2 : Int} {a3 : Int} {S : Mem} {r : Int} {S' : Mem} (hfl : g.2.2.2.2 = true) (hE : Lens E PM) (h : g_X10_priceIn a1 a2 a3 S = some (r, S')) : Cn g B n yX10_priceIn cX10_priceIn 5 (some .int) 4 [vR 56, vI (a1), vI (a2), vI (a3)] (E S) (QcI g B n r (E S')) := by
  refine Cn.of (by decide +kernel) (Nat.le_of_ble_eq_true rfl) (fun X hg hnl hX hR => ?_)
  subst hg
  have hX : Ctx X cX10_priceIn "TelegramFeelingsModel" 4 := hX
  unfold g_X10_priceIn at h
  show JW X B n 0 0 0 [(0, vR 56), (1, vI (a1)), (2, vI (a2)), (3, vI (a3))] [] (E S) (QM X (QcI (gX X) B n r (E S')))
  refine j_aload_n hX 0 dX10_priceIn_0 rfl rfl ?_
  refine j_getS (k := 10) hX hfl cbX10 ty56 (by decide) rfl wd1150 rfl sb56_10 dX10_priceIn_1 ?_
  refine j_iconst hX dX10_priceIn_4 (rc rfl) ?_
  refine j_iald hX hE ty64 pc64 (ldk_c (k := 0) (by decide)) dX10_priceIn_5 ?_
  refine j_iconst hX dX10_priceIn_6 (rc rfl) ?_
  refine j_icmp_ne hX (tgt := 21) dX10_priceIn_7 (by decide) (fun hc => ?_) (fun hc => ?_)
  · rw [if_neg hc] at h
    refine j_aload_n hX 0 dX10_priceIn_21 rfl rfl ?_
    refine j_getS (k := 2) hX hfl cbX10 ty56 (by decide) rfl wd1142 rfl sb56_2 dX10_priceIn_22 ?_
    refine j_iload_n hX 1 dX10_priceIn_25 rfl rfl ?_
    obtain ⟨x2, hv, h⟩ := bs h
    refine j_iald hX hE ty57 pc57 hv dX10_priceIn_26 ?_
    refine j_sub [0, 1, 2, 3] rfl ?_
    exact sj_X10_priceIn_27 hX hR hfl hnl hE  h
  · rw [if_pos hc] at h
    refine j_aload_n hX 0 dX10_priceIn_10 rfl rfl ?_
    refine j_getS (k := 2) hX hfl cbX10 ty56 (by decide) rfl wd1142 rfl sb56_2 dX10_priceIn_11 ?_
    refine j_iload_n hX 1 dX10_priceIn_14 rfl rfl ?_
    obtain ⟨x14, hv, h⟩ := bs h
    refine j_iald hX hE ty57 pc57 hv dX10_priceIn_15 ?_
    refine j_iconst hX dX10_priceIn_16 (rc rfl) ?_
    refine j_idiv hX dX10_priceIn_17 (by decide) ?_
    refine j_goto hX (tgt := 27) dX10_priceIn_18 (by decide) ?_
    refine j_sub [0, 1, 2, 3] rfl ?_
    exact sj_X10_priceIn_27 hX hR hfl hnl hE  h
theorem s_X10_price {g : G0} {B : Nat → Nat} {n : Nat} {E : Mem → Mem} {a1 : Int} {a2 : Int} {S : Mem} {r : Int} {S' : Mem} (hfl : g.2.2.2.2 = true) (hE : Lens E PM) (h : g_X10_price a1 a2 S = some (r, S')) : Cn g B n yX10_price cX10_price 3 (some .int) 5 [vR 56, vI (a1), vI (a2)] (E S) (QcI g B n r (E S')) := by
  refine Cn.of (by decide +kernel) (Nat.le_of_ble_eq_true rfl) (fun X hg hnl hX hR => ?_)
  subst hg
  have hX : Ctx X cX10_price "TelegramFeelingsModel" 5 := hX
  unfold g_X10_price at h
  show JW X B n 0 0 0 [(0, vR 56), (1, vI (a1)), (2, vI (a2))] [] (E S) (QM X (QcI (gX X) B n r (E S')))
  refine j_aload_n hX 0 dX10_price_0 rfl rfl ?_
  refine j_iload_n hX 1 dX10_price_1 rfl rfl ?_
  obtain ⟨x1, h1, h⟩ := bs h
  refine j_callVI hX mwX10_isWord miX10_isWord wd1365 cbX10 ty56 hyX10_isWord (by omega) (by decide) ⟨Nat.zero_le _, Nat.zero_le _⟩ dX10_price_2 (s_X10_isWord hfl hE h1) npX10_isWord rfl (Nat.le_of_ble_eq_true rfl) ?_
  refine j_if_eq hX (tgt := 45) dX10_price_5 (by decide) (fun hc => ?_) (fun hc => ?_)
  · rw [if_pos hc] at h
    refine j_iconst hX dX10_price_45 (rc rfl) ?_
    cases h
    exact j_iret hX hR dX10_price_46
  · rw [if_neg hc] at h
    refine j_iload_n hX 2 dX10_price_8 rfl rfl ?_
    refine j_if_lt hX (tgt := 45) dX10_price_9 (by decide) (fun hc => ?_) (fun hc => ?_)
    · rw [if_pos hc] at h
      refine j_iconst hX dX10_price_45 (rc rfl) ?_
      cases h
      exact j_iret hX hR dX10_price_46
    · rw [if_neg hc] at h
      refine j_iload_n hX 2 dX10_price_12 rfl rfl ?_
      refine j_bipush hX dX10_price_13 (rc rfl) (by decide) ?_
      refine j_idiv hX dX10_price_15 (by decide) ?_
      refine j_iconst hX dX10_price_16 (rc rfl) ?_
      refine j_icmp_gt hX (tgt := 45) dX10_price_17 (by decide) (fun hc => ?_) (fun hc => ?_)
      · rw [if_pos hc] at h
        refine j_iconst hX dX10_price_45 (rc rfl) ?_
        cases h
        exact j_iret hX hR dX10_price_46
      · rw [if_neg hc] at h
        refine j_iload_n hX 2 dX10_price_20 rfl rfl ?_
        refine j_bipush hX dX10_price_21 (rc rfl) (by decide) ?_
        refine j_irem hX dX10_price_23 (by decide) ?_
        refine j_bipush hX dX10_price_24 (rc rfl) (by decide) ?_
        refine j_icmp_ge hX (tgt := 45) dX10_price_26 (by decide) (fun hc => ?_) (fun hc => ?_)
        · rw [if_pos hc] at h
          refine j_iconst hX dX10_price_45 (rc rfl) ?_
          cases h
          exact j_iret hX hR dX10_price_46
        · rw [if_neg hc] at h
          refine j_aload_n hX 0 dX10_price_29 rfl rfl ?_
          refine j_iload_n hX 1 dX10_price_30 rfl rfl ?_
          refine j_iload_n hX 2 dX10_price_31 rfl rfl ?_
          refine j_bipush hX dX10_price_32 (rc rfl) (by decide) ?_
          refine j_idiv hX dX10_price_34 (by decide) ?_
          refine j_iload_n hX 2 dX10_price_35 rfl rfl ?_
          refine j_bipush hX dX10_price_36 (rc rfl) (by decide) ?_
          refine j_irem hX dX10_price_38 (by decide) ?_
          obtain ⟨x3, S2, h1, h⟩ := bd2_s h
          refine j_callVI hX mwX10_priceIn miX10_priceIn wd1456 cbX10 ty56 hyX10_priceIn (by omega) (by decide) ⟨Nat.zero_le _, Nat.zero_le _⟩ dX10_price_39 (s_X10_priceIn hfl hE h1) npX10_priceIn rfl (Nat.le_of_ble_eq_true rfl) ?_
          refine j_goto hX (tgt := 46) dX10_price_42 (by decide) ?_
          cases h
          exact j_iret hX hR dX10_price_46
theorem s_X10_rowFault {g : G0} {B : Nat → Nat} {n : Nat} {E : Mem → Mem} {a1 : Int} {a2 : Int} {S : Mem} {r : Int} (hfl : g.2.2.2.2 = true) (hE : Lens E PM) (h : g_X10_rowFault a1 a2 S = some r) : Cn g B n yX10_rowFault cX10_rowFault 3 (some .int) 1 [vR 56, vI (a1), vI (a2)] (E S) (QcI g B n r (E S)) := by
  refine Cn.of (by decide +kernel) (Nat.le_of_ble_eq_true rfl) (fun X hg hnl hX hR => ?_)
  subst hg
  have hX : Ctx X cX10_rowFault "TelegramFeelingsModel" 1 := hX
  unfold g_X10_rowFault at h
  show JW X B n 0 0 0 [(0, vR 56), (1, vI (a1)), (2, vI (a2))] [] (E S) (QM X (QcI (gX X) B n r (E S)))
  refine j_aload_n hX 0 dX10_rowFault_0 rfl rfl ?_
  refine j_getS (k := 56) hX hfl cbX10 ty56 (by decide) rfl wd1196 rfl sb56_56 dX10_rowFault_1 ?_
  refine j_iload_n hX 1 dX10_rowFault_4 rfl rfl ?_
  obtain ⟨x1, hv, h⟩ := bs h
  refine j_iald hX hE ty93 pc93 hv dX10_rowFault_5 ?_
  refine j_iconst hX dX10_rowFault_6 (rc rfl) ?_
  refine j_icmp_ne hX (tgt := 15) dX10_rowFault_7 (by decide) (fun hc => ?_) (fun hc => ?_)
  · rw [if_neg hc] at h
    refine j_aload_n hX 0 dX10_rowFault_15 rfl rfl ?_
    refine j_getS (k := 56) hX hfl cbX10 ty56 (by decide) rfl wd1196 rfl sb56_56 dX10_rowFault_16 ?_
    refine j_iload_n hX 1 dX10_rowFault_19 rfl rfl ?_
    obtain ⟨x2, hv, h⟩ := bs h
    refine j_iald hX hE ty93 pc93 hv dX10_rowFault_20 ?_
    refine j_bipush hX dX10_rowFault_21 (rc rfl) (by decide) ?_
    refine j_iload_n hX 2 dX10_rowFault_23 rfl rfl ?_
    refine j_isub hX dX10_rowFault_24 ?_
    refine j_icmp_ne hX (tgt := 32) dX10_rowFault_25 (by decide) (fun hc => ?_) (fun hc => ?_)
    · rw [if_neg hc] at h
      refine j_bipush hX dX10_rowFault_32 (rc rfl) (by decide) ?_
      cases h
      exact j_iret hX hR dX10_rowFault_34
    · rw [if_pos hc] at h
      refine j_iconst hX dX10_rowFault_28 (rc rfl) ?_
      refine j_goto hX (tgt := 34) dX10_rowFault_29 (by decide) ?_
      cases h
      exact j_iret hX hR dX10_rowFault_34
  · rw [if_pos hc] at h
    refine j_bipush hX dX10_rowFault_10 (rc rfl) (by decide) ?_
    refine j_goto hX (tgt := 34) dX10_rowFault_12 (by decide) ?_
    cases h
    exact j_iret hX hR dX10_rowFault_34
theorem s_X10_at {g : G0} {B : Nat → Nat} {n : Nat} {E : Mem → Mem} {a1 : Int} {a2 : Int} {S : Mem} {r : Int} (hfl : g.2.2.2.2 = true) (hE : Lens E PM) (h : g_X10_at a1 a2 S = some r) : Cn g B n yX10_at cX10_at 3 (some .int) 1 [vR 56, vI (a1), vI (a2)] (E S) (QcI g B n r (E S)) := by
  refine Cn.of (by decide +kernel) (Nat.le_of_ble_eq_true rfl) (fun X hg hnl hX hR => ?_)
  subst hg
  have hX : Ctx X cX10_at "TelegramFeelingsModel" 1 := hX
  unfold g_X10_at at h
  show JW X B n 0 0 0 [(0, vR 56), (1, vI (a1)), (2, vI (a2))] [] (E S) (QM X (QcI (gX X) B n r (E S)))
  refine j_aload_n hX 0 dX10_at_0 rfl rfl ?_
  refine j_getS (k := 58) hX hfl cbX10 ty56 (by decide) rfl wd1198 rfl sb56_58 dX10_at_1 ?_
  refine j_bipush hX dX10_at_4 (rc rfl) (by decide) ?_
  refine j_iload_n hX 1 dX10_at_6 rfl rfl ?_
  refine j_imul hX dX10_at_7 ?_
  refine j_iload_n hX 2 dX10_at_8 rfl rfl ?_
  refine j_iadd hX dX10_at_9 ?_
  obtain ⟨x1, hv, h⟩ := bs h
  refine j_lald hX hE ty95 pc95 hv dX10_at_10 ?_
  refine j_l2i hX dX10_at_11 ?_
  cases h
  exact j_iret hX hR dX10_at_12
theorem sl_X10_layWired_5 {X : K0} {B : Nat → Nat} {n : Nat} {E : Mem → Mem} {S' : Mem} (hX : Ctx X cX10_layWired "TelegramFeelingsModel" 3) (hR : CR X none) (hfl : (gX X).2.2.2.2 = true) (hnl : X.2.2.2.2.2.2.2.2.2.2.2.2.2.2 = 2) (hE : Lens E PM)  {v1 : Int}  : ∀ (fu : Nat) (S : Mem), g_X10_layWired_L5 v1 fu S = some S' → JW X B n 0 0 5 [(0, vR 56), (1, vI (v1))] [] (E S) (QM X (QcV (gX X) B n (E S'))) := by
  intro fu
  induction fu with
  | zero =>
    intro S h
    rw [g_X10_layWired_L5] at h
    cases h
  | succ fu ih =>
    intro S h
    rw [g_X10_layWired_L5] at h
    refine j_aload_n hX 0 dX10_layWired_5 rfl rfl ?_
    refine j_getI (k := 32) hX hE cbX10 ty56 pc56 (by decide) rfl wd1172 rfl dX10_layWired_6 ?_
    refine j_bipush hX dX10_layWired_9 (rc rfl) (by decide) ?_
    refine j_icmp_ge hX (tgt := 74) dX10_layWired_11 (by decide) (fun hc => ?_) (fun hc => ?_)
    · rw [if_pos hc] at h
      cases h
      exact j_vret hX hR dX10_layWired_74
    · rw [if_neg hc] at h
      refine j_aload_n hX 0 dX10_layWired_14 rfl rfl ?_
      refine j_getI (k := 32) hX hE cbX10 ty56 pc56 (by decide) rfl wd1172 rfl dX10_layWired_15 ?_
      refine j_aload_n hX 0 dX10_layWired_18 rfl rfl ?_
      refine j_getS (k := 57) hX hfl cbX10 ty56 (by decide) rfl wd1197 rfl sb56_57 dX10_layWired_19 ?_
      refine j_iload_n hX 1 dX10_layWired_22 rfl rfl ?_
      obtain ⟨x2, hv, h⟩ := bs h
      refine j_iald hX hE ty94 pc94 hv dX10_layWired_23 ?_
      refine j_icmp_ge hX (tgt := 74) dX10_layWired_24 (by decide) (fun hc => ?_) (fun hc => ?_)
      · rw [if_pos hc] at h
        cases h
        exact j_vret hX hR dX10_layWired_74
      · rw [if_neg hc] at h
        refine j_aload_n hX 0 dX10_layWired_27 rfl rfl ?_
        refine j_aload_n hX 0 dX10_layWired_28 rfl rfl ?_
        refine j_iload_n hX 1 dX10_layWired_29 rfl rfl ?_
        refine j_aload_n hX 0 dX10_layWired_30 rfl rfl ?_
        refine j_getI (k := 32) hX hE cbX10 ty56 pc56 (by decide) rfl wd1172 rfl dX10_layWired_31 ?_
        obtain ⟨x3, h1, h⟩ := bs h
        refine j_callVI hX mwX10_at miX10_at wd1483 cbX10 ty56 hyX10_at (by omega) (by decide) ⟨Nat.zero_le _, Nat.zero_le _⟩ dX10_layWired_34 (s_X10_at hfl hE h1) npX10_at rfl (Nat.le_of_ble_eq_true rfl) ?_
        obtain ⟨x4, h1, h⟩ := bs h
        refine j_callVI hX mwX10_isWord miX10_isWord wd1365 cbX10 ty56 hyX10_isWord (by omega) (by decide) ⟨Nat.zero_le _, Nat.zero_le _⟩ dX10_layWired_37 (s_X10_isWord hfl hE h1) npX10_isWord rfl (Nat.le_of_ble_eq_true rfl) ?_
        refine j_if_eq hX (tgt := 74) dX10_layWired_40 (by decide) (fun hc => ?_) (fun hc => ?_)
        · rw [if_pos hc] at h
          cases h
          exact j_vret hX hR dX10_layWired_74
        · rw [if_neg hc] at h
          refine j_aload_n hX 0 dX10_layWired_43 rfl rfl ?_
          refine j_getS (k := 31) hX hfl cbX10 ty56 (by decide) rfl wd1171 rfl sb56_31 dX10_layWired_44 ?_
          refine j_aload_n hX 0 dX10_layWired_47 rfl rfl ?_
          refine j_getI (k := 32) hX hE cbX10 ty56 pc56 (by decide) rfl wd1172 rfl dX10_layWired_48 ?_
          refine j_aload_n hX 0 dX10_layWired_51 rfl rfl ?_
          refine j_iload_n hX 1 dX10_layWired_52 rfl rfl ?_
          refine j_aload_n hX 0 dX10_layWired_53 rfl rfl ?_
          refine j_getI (k := 32) hX hE cbX10 ty56 pc56 (by decide) rfl wd1172 rfl dX10_layWired_54 ?_
          obtain ⟨x5, h1, h⟩ := bs h
          refine j_callVI hX mwX10_at miX10_at wd1483 cbX10 ty56 hyX10_at (by omega) (by decide) ⟨Nat.zero_le _, Nat.zero_le _⟩ dX10_layWired_57 (s_X10_at hfl hE h1) npX10_at rfl (Nat.le_of_ble_eq_true rfl) ?_
          obtain ⟨S6, hv, h⟩ := bs h
          refine j_iast hX hE ty77 pc77 hv dX10_layWired_60 ?_
          refine j_aload_n hX 0 dX10_layWired_61 rfl rfl ?_
          refine j_dup hX dX10_layWired_62 rfl ?_
          refine j_getI (k := 32) hX hE cbX10 ty56 pc56 (by decide) rfl wd1172 rfl dX10_layWired_63 ?_
          refine j_iconst hX dX10_layWired_66 (rc rfl) ?_
          refine j_iadd hX dX10_layWired_67 ?_
          refine j_putI (k := 32) hX hE cbX10 ty56 pc56 (by decide) rfl wd1172 rfl (Or.inl rfl) rfl dX10_layWired_68 ?_
          obtain ⟨S7, hx, h⟩ := ap_s h
          rw [← hx]
          clear hx
          refine j_goto hX (tgt := 5) dX10_layWired_71 (by decide) ?_
          refine j_sub [0, 1] rfl ?_
          exact ih _ h
theorem s_X10_layWired {g : G0} {B : Nat → Nat} {n : Nat} {E : Mem → Mem} {a1 : Int} {S : Mem} {S' : Mem} (hfl : g.2.2.2.2 = true) (hE : Lens E PM) (h : g_X10_layWired a1 S = some S') : Cn g B n yX10_layWired cX10_layWired 2 none 3 [vR 56, vI (a1)] (E S) (QcV g B n (E S')) := by
  refine Cn.of (by decide +kernel) (Nat.le_of_ble_eq_true rfl) (fun X hg hnl hX hR => ?_)
  subst hg
  have hX : Ctx X cX10_layWired "TelegramFeelingsModel" 3 := hX
  unfold g_X10_layWired at h
  show JW X B n 0 0 0 [(0, vR 56), (1, vI (a1))] [] (E S) (QM X (QcV (gX X) B n (E S')))
  refine j_aload_n hX 0 dX10_layWired_0 rfl rfl ?_
  refine j_iconst hX dX10_layWired_1 (rc rfl) ?_
  refine j_putI (k := 32) hX hE cbX10 ty56 pc56 (by decide) rfl wd1172 rfl (Or.inl rfl) rfl dX10_layWired_2 ?_
  obtain ⟨S1, hx, h⟩ := ap_s h
  rw [← hx]
  clear hx
  refine j_sub [0, 1] rfl ?_
  refine sl_X10_layWired_5 hX hR hfl hnl hE  _ _ h
theorem s_X10_aheadOf {g : G0} {B : Nat → Nat} {n : Nat} {E : Mem → Mem} {a1 : Int} {S : Mem} {r : Int} (hfl : g.2.2.2.2 = true) (hE : Lens E PM) (h : g_X10_aheadOf a1 S = some r) : Cn g B n yX10_aheadOf cX10_aheadOf 2 (some .int) 1 [vR 56, vI (a1)] (E S) (QcI g B n r (E S)) := by
  refine Cn.of (by decide +kernel) (Nat.le_of_ble_eq_true rfl) (fun X hg hnl hX hR => ?_)
  subst hg
  have hX : Ctx X cX10_aheadOf "TelegramFeelingsModel" 1 := hX
  unfold g_X10_aheadOf at h
  show JW X B n 0 0 0 [(0, vR 56), (1, vI (a1))] [] (E S) (QM X (QcI (gX X) B n r (E S)))
  refine j_iload_n hX 1 dX10_aheadOf_0 rfl rfl ?_
  refine j_if_ne hX (tgt := 8) dX10_aheadOf_1 (by decide) (fun hc => ?_) (fun hc => ?_)
  · rw [if_neg hc] at h
    refine j_aload_n hX 0 dX10_aheadOf_8 rfl rfl ?_
    refine j_getS (k := 4) hX hfl cbX10 ty56 (by decide) rfl wd1144 rfl sb56_4 dX10_aheadOf_9 ?_
    refine j_aload_n hX 0 dX10_aheadOf_12 rfl rfl ?_
    refine j_getS (k := 31) hX hfl cbX10 ty56 (by decide) rfl wd1171 rfl sb56_31 dX10_aheadOf_13 ?_
    refine j_iload_n hX 1 dX10_aheadOf_16 rfl rfl ?_
    refine j_iconst hX dX10_aheadOf_17 (rc rfl) ?_
    refine j_isub hX dX10_aheadOf_18 ?_
    obtain ⟨x1, hv, h⟩ := bs h
    refine j_iald hX hE ty77 pc77 hv dX10_aheadOf_19 ?_
    obtain ⟨x2, hv, h⟩ := bs h
    refine j_iald hX hE ty59 pc59 hv dX10_aheadOf_20 ?_
    cases h
    exact j_iret hX hR dX10_aheadOf_21
  · rw [if_pos hc] at h
    refine j_iconst hX dX10_aheadOf_4 (rc rfl) ?_
    refine j_goto hX (tgt := 21) dX10_aheadOf_5 (by decide) ?_
    cases h
    exact j_iret hX hR dX10_aheadOf_21
theorem s_X10_priceAt {g : G0} {B : Nat → Nat} {n : Nat} {E : Mem → Mem} {a1 : Int} {S : Mem} {r : Int} {S' : Mem} (hfl : g.2.2.2.2 = true) (hE : Lens E PM) (h : g_X10_priceAt a1 S = some (r, S')) : Cn g B n yX10_priceAt cX10_priceAt 2 (some .int) 5 [vR 56, vI (a1)] (E S) (QcI g B n r (E S')) := by
  refine Cn.of (by decide +kernel) (Nat.le_of_ble_eq_true rfl) (fun X hg hnl hX hR => ?_)
  subst hg
  have hX : Ctx X cX10_priceAt "TelegramFeelingsModel" 5 := hX
  unfold g_X10_priceAt at h
  show JW X B n 0 0 0 [(0, vR 56), (1, vI (a1))] [] (E S) (QM X (QcI (gX X) B n r (E S')))
  refine j_aload_n hX 0 dX10_priceAt_0 rfl rfl ?_
  refine j_aload_n hX 0 dX10_priceAt_1 rfl rfl ?_
  refine j_getS (k := 31) hX hfl cbX10 ty56 (by decide) rfl wd1171 rfl sb56_31 dX10_priceAt_2 ?_
  refine j_iload_n hX 1 dX10_priceAt_5 rfl rfl ?_
  obtain ⟨x1, hv, h⟩ := bs h
  refine j_iald hX hE ty77 pc77 hv dX10_priceAt_6 ?_
  refine j_aload_n hX 0 dX10_priceAt_7 rfl rfl ?_
  refine j_iload_n hX 1 dX10_priceAt_8 rfl rfl ?_
  obtain ⟨x2, h1, h⟩ := bs h
  refine j_callVI hX mwX10_aheadOf miX10_aheadOf wd1496 cbX10 ty56 hyX10_aheadOf (by omega) (by decide) ⟨Nat.zero_le _, Nat.zero_le _⟩ dX10_priceAt_9 (s_X10_aheadOf hfl hE h1) npX10_aheadOf rfl (Nat.le_of_ble_eq_true rfl) ?_
  refine j_iload_n hX 1 dX10_priceAt_12 rfl rfl ?_
  obtain ⟨x4, S3, h1, h⟩ := bd2_s h
  refine j_callVI hX mwX10_priceIn miX10_priceIn wd1456 cbX10 ty56 hyX10_priceIn (by omega) (by decide) ⟨Nat.zero_le _, Nat.zero_le _⟩ dX10_priceAt_13 (s_X10_priceIn hfl hE h1) npX10_priceIn rfl (Nat.le_of_ble_eq_true rfl) ?_
  cases h
  exact j_iret hX hR dX10_priceAt_16
theorem sl_X10_priceAll_4 {X : K0} {B : Nat → Nat} {n : Nat} {E : Mem → Mem} {r : Int} {S' : Mem} (hX : Ctx X cX10_priceAll "TelegramFeelingsModel" 6) (hR : CR X (some .int)) (hfl : (gX X).2.2.2.2 = true) (hnl : X.2.2.2.2.2.2.2.2.2.2.2.2.2.2 = 3) (hE : Lens E PM)    : ∀ (fu : Nat) (v1 : Int) (v2 : Int) (S : Mem), g_X10_priceAll_L4 fu v1 v2 S = some (r, S') → JW X B n 0 0 4 [(0, vR 56), (1, vI (v1)), (2, vI (v2))] [] (E S) (QM X (QcI (gX X) B n r (E S'))) := by
  intro fu
  induction fu with
  | zero =>
    intro v1 v2 S h
    rw [g_X10_priceAll_L4] at h
    cases h
  | succ fu ih =>
    intro v1 v2 S h
    rw [g_X10_priceAll_L4] at h
    refine j_iload_n hX 2 dX10_priceAll_4 rfl rfl ?_
    refine j_aload_n hX 0 dX10_priceAll_5 rfl rfl ?_
    refine j_getI (k := 32) hX hE cbX10 ty56 pc56 (by decide) rfl wd1172 rfl dX10_priceAll_6 ?_
    refine j_icmp_ge hX (tgt := 26) dX10_priceAll_9 (by decide) (fun hc => ?_) (fun hc => ?_)
    · rw [if_pos hc] at h
      refine j_iload_n hX 1 dX10_priceAll_26 rfl rfl ?_
      cases h
      exact j_iret hX hR dX10_priceAll_27
    · rw [if_neg hc] at h
      refine j_iload_n hX 1 dX10_priceAll_12 rfl rfl ?_
      refine j_aload_n hX 0 dX10_priceAll_13 rfl rfl ?_
      refine j_iload_n hX 2 dX10_priceAll_14 rfl rfl ?_
      obtain ⟨x2, S1, h1, h⟩ := bd2_s h
      refine j_callVI hX mwX10_priceAt miX10_priceAt wd1492 cbX10 ty56 hyX10_priceAt (by omega) (by decide) ⟨Nat.zero_le _, Nat.zero_le _⟩ dX10_priceAll_15 (s_X10_priceAt hfl hE h1) npX10_priceAt rfl (Nat.le_of_ble_eq_true rfl) ?_
      refine j_iadd hX dX10_priceAll_18 ?_
      refine j_istore_n (L' := [(1, vI (w32 (v1 + x2))), (0, vR 56), (2, vI (v2))]) hX dX10_priceAll_19 rfl hnl (by decide) rfl ?_
      refine j_iinc (L' := [(2, vI (w32 (v2 + 1))), (1, vI (w32 (v1 + x2))), (0, vR 56)]) hX 2 dX10_priceAll_20 hnl (by decide) rfl rfl ?_
      refine j_goto hX (tgt := 4) dX10_priceAll_23 (by decide) ?_
      refine j_sub [2, 1, 0] rfl ?_
      exact ih _ _ _ h
theorem s_X10_priceAll {g : G0} {B : Nat → Nat} {n : Nat} {E : Mem → Mem}  {S : Mem} {r : Int} {S' : Mem} (hfl : g.2.2.2.2 = true) (hE : Lens E PM) (h : g_X10_priceAll S = some (r, S')) : Cn g B n yX10_priceAll cX10_priceAll 3 (some .int) 6 [vR 56] (E S) (QcI g B n r (E S')) := by
  refine Cn.of (by decide +kernel) (Nat.le_of_ble_eq_true rfl) (fun X hg hnl hX hR => ?_)
  subst hg
  have hX : Ctx X cX10_priceAll "TelegramFeelingsModel" 6 := hX
  unfold g_X10_priceAll at h
  show JW X B n 0 0 0 [(0, vR 56)] [] (E S) (QM X (QcI (gX X) B n r (E S')))
  refine j_iconst hX dX10_priceAll_0 (rc rfl) ?_
  refine j_istore_n (L' := [(1, vI (0)), (0, vR 56)]) hX dX10_priceAll_1 rfl hnl (by decide) rfl ?_
  refine j_iconst hX dX10_priceAll_2 (rc rfl) ?_
  refine j_istore_n (L' := [(2, vI (0)), (1, vI (0)), (0, vR 56)]) hX dX10_priceAll_3 rfl hnl (by decide) rfl ?_
  refine j_sub [2, 1, 0] rfl ?_
  refine sl_X10_priceAll_4 hX hR hfl hnl hE  _ _ _ _ h
theorem sl_X10_senseAll_4 {X : K0} {B : Nat → Nat} {n : Nat} {E : Mem → Mem} {r : Int} (hX : Ctx X cX10_senseAll "TelegramFeelingsModel" 1) (hR : CR X (some .int)) (hfl : (gX X).2.2.2.2 = true) (hnl : X.2.2.2.2.2.2.2.2.2.2.2.2.2.2 = 3) (hE : Lens E PM)   {S : Mem}  : ∀ (fu : Nat) (v1 : Int) (v2 : Int), g_X10_senseAll_L4 S fu v1 v2 = some r → JW X B n 0 0 4 [(0, vR 56), (1, vI (v1)), (2, vI (v2))] [] (E S) (QM X (QcI (gX X) B n r (E S))) := by
  intro fu
  induction fu with
  | zero =>
    intro v1 v2 h
    rw [g_X10_senseAll_L4] at h
    cases h
  | succ fu ih =>
    intro v1 v2 h
    rw [g_X10_senseAll_L4] at h
    refine j_iload_n hX 2 dX10_senseAll_4 rfl rfl ?_
    refine j_aload_n hX 0 dX10_senseAll_5 rfl rfl ?_
    refine j_getI (k := 32) hX hE cbX10 ty56 pc56 (by decide) rfl wd1172 rfl dX10_senseAll_6 ?_
    refine j_icmp_ge hX (tgt := 32) dX10_senseAll_9 (by decide) (fun hc => ?_) (fun hc => ?_)
    · rw [if_pos hc] at h
      refine j_iload_n hX 1 dX10_senseAll_32 rfl rfl ?_
      cases h
      exact j_iret hX hR dX10_senseAll_33
    · rw [if_neg hc] at h
      refine j_iload_n hX 1 dX10_senseAll_12 rfl rfl ?_
      refine j_aload_n hX 0 dX10_senseAll_13 rfl rfl ?_
      refine j_getS (k := 3) hX hfl cbX10 ty56 (by decide) rfl wd1143 rfl sb56_3 dX10_senseAll_14 ?_
      refine j_aload_n hX 0 dX10_senseAll_17 rfl rfl ?_
      refine j_getS (k := 31) hX hfl cbX10 ty56 (by decide) rfl wd1171 rfl sb56_31 dX10_senseAll_18 ?_
      refine j_iload_n hX 2 dX10_senseAll_21 rfl rfl ?_
      obtain ⟨x1, hv, h⟩ := bs h
      refine j_iald hX hE ty77 pc77 hv dX10_senseAll_22 ?_
      obtain ⟨x2, hv, h⟩ := bs h
      refine j_iald hX hE ty58 pc58 hv dX10_senseAll_23 ?_
      refine j_ior hX dX10_senseAll_24 ?_
      refine j_istore_n (L' := [(1, vI (o_or v1 x2)), (0, vR 56), (2, vI (v2))]) hX dX10_senseAll_25 rfl hnl (by decide) rfl ?_
      refine j_iinc (L' := [(2, vI (w32 (v2 + 1))), (1, vI (o_or v1 x2)), (0, vR 56)]) hX 2 dX10_senseAll_26 hnl (by decide) rfl rfl ?_
      refine j_goto hX (tgt := 4) dX10_senseAll_29 (by decide) ?_
      refine j_sub [2, 1, 0] rfl ?_
      exact ih _ _ h
theorem s_X10_senseAll {g : G0} {B : Nat → Nat} {n : Nat} {E : Mem → Mem}  {S : Mem} {r : Int} (hfl : g.2.2.2.2 = true) (hE : Lens E PM) (h : g_X10_senseAll S = some r) : Cn g B n yX10_senseAll cX10_senseAll 3 (some .int) 1 [vR 56] (E S) (QcI g B n r (E S)) := by
  refine Cn.of (by decide +kernel) (Nat.le_of_ble_eq_true rfl) (fun X hg hnl hX hR => ?_)
  subst hg
  have hX : Ctx X cX10_senseAll "TelegramFeelingsModel" 1 := hX
  unfold g_X10_senseAll at h
  show JW X B n 0 0 0 [(0, vR 56)] [] (E S) (QM X (QcI (gX X) B n r (E S)))
  refine j_iconst hX dX10_senseAll_0 (rc rfl) ?_
  refine j_istore_n (L' := [(1, vI (0)), (0, vR 56)]) hX dX10_senseAll_1 rfl hnl (by decide) rfl ?_
  refine j_iconst hX dX10_senseAll_2 (rc rfl) ?_
  refine j_istore_n (L' := [(2, vI (0)), (1, vI (0)), (0, vR 56)]) hX dX10_senseAll_3 rfl hnl (by decide) rfl ?_
  refine j_sub [2, 1, 0] rfl ?_
  refine sl_X10_senseAll_4 hX hR hfl hnl hE  _ _ _ h
theorem s_X10_mayStand {g : G0} {B : Nat → Nat} {n : Nat} {M : Mem} {a1 : Int} {a2 : Int} {r : Int} (hfl : g.2.2.2.2 = true) (h : g_X10_mayStand a1 a2 = r) : Cn g B n yX10_mayStand cX10_mayStand 2 (some .boolean) 1 [vI (a1), vI (a2)] M (QcI g B n r M) := by
  refine Cn.of (by decide +kernel) (Nat.le_of_ble_eq_true rfl) (fun X hg hnl hX hR => ?_)
  subst hg
  have hX : Ctx X cX10_mayStand "TelegramFeelingsModel" 1 := hX
  unfold g_X10_mayStand at h
  show JW X B n 0 0 0 [(0, vI (a1)), (1, vI (a2))] [] (M) (QM X (QcI (gX X) B n r M))
  refine j_iload_n hX 1 dX10_mayStand_0 rfl rfl ?_
  refine j_iconst hX dX10_mayStand_1 (rc rfl) ?_
  refine j_icmp_ne hX (tgt := 17) dX10_mayStand_2 (by decide) (fun hc => ?_) (fun hc => ?_)
  · rw [if_neg hc] at h
    refine j_iload_n hX 0 dX10_mayStand_17 rfl rfl ?_
    refine j_iconst hX dX10_mayStand_18 (rc rfl) ?_
    refine j_icmp_eq hX (tgt := 31) dX10_mayStand_19 (by decide) (fun hc => ?_) (fun hc => ?_)
    · rw [if_pos hc] at h
      refine j_iconst hX dX10_mayStand_31 (rc rfl) ?_
      refine j_goto hX (tgt := 36) dX10_mayStand_32 (by decide) ?_
      subst h
      exact j_zret hX hR (Or.inr rfl) dX10_mayStand_36
    · rw [if_neg hc] at h
      refine j_iload_n hX 0 dX10_mayStand_22 rfl rfl ?_
      refine j_iconst hX dX10_mayStand_23 (rc rfl) ?_
      refine j_icmp_ne hX (tgt := 35) dX10_mayStand_24 (by decide) (fun hc => ?_) (fun hc => ?_)
      · rw [if_neg hc] at h
        refine j_iconst hX dX10_mayStand_35 (rc rfl) ?_
        subst h
        exact j_zret hX hR (Or.inl rfl) dX10_mayStand_36
      · rw [if_pos hc] at h
        refine j_iload_n hX 1 dX10_mayStand_27 rfl rfl ?_
        refine j_if_eq hX (tgt := 35) dX10_mayStand_28 (by decide) (fun hc => ?_) (fun hc => ?_)
        · rw [if_pos hc] at h
          refine j_iconst hX dX10_mayStand_35 (rc rfl) ?_
          subst h
          exact j_zret hX hR (Or.inl rfl) dX10_mayStand_36
        · rw [if_neg hc] at h
          refine j_iconst hX dX10_mayStand_31 (rc rfl) ?_
          refine j_goto hX (tgt := 36) dX10_mayStand_32 (by decide) ?_
          subst h
          exact j_zret hX hR (Or.inr rfl) dX10_mayStand_36
  · rw [if_pos hc] at h
    refine j_iload_n hX 0 dX10_mayStand_5 rfl rfl ?_
    refine j_if_ne hX (tgt := 13) dX10_mayStand_6 (by decide) (fun hc => ?_) (fun hc => ?_)
    · rw [if_neg hc] at h
      refine j_iconst hX dX10_mayStand_13 (rc rfl) ?_
      refine j_goto hX (tgt := 36) dX10_mayStand_14 (by decide) ?_
      subst h
      exact j_zret hX hR (Or.inl rfl) dX10_mayStand_36
    · rw [if_pos hc] at h
      refine j_iconst hX dX10_mayStand_9 (rc rfl) ?_
      refine j_goto hX (tgt := 36) dX10_mayStand_10 (by decide) ?_
      subst h
      exact j_zret hX hR (Or.inr rfl) dX10_mayStand_36
theorem sl_X10_isRight_4 {X : K0} {B : Nat → Nat} {n : Nat} {E : Mem → Mem} {r : Int} (hX : Ctx X cX10_isRight "TelegramFeelingsModel" 2) (hR : CR X (some .boolean)) (hfl : (gX X).2.2.2.2 = true) (hnl : X.2.2.2.2.2.2.2.2.2.2.2.2.2.2 = 3) (hE : Lens E PM)   {S : Mem}  : ∀ (fu : Nat) (v1 : Int) (v2 : Int), g_X10_isRight_L4 S fu v1 v2 = some r → JW X B n 0 0 4 [(0, vR 56), (1, vI (v1)), (2, vI (v2))] [] (E S) (QM X (QcI (gX X) B n r (E S))) := by
  intro fu
  induction fu with
  | zero =>
    intro v1 v2 h
    rw [g_X10_isRight_L4] at h
    cases h
  | succ fu ih =>
    intro v1 v2 h
    rw [g_X10_isRight_L4] at h
    refine j_iload_n hX 2 dX10_isRight_4 rfl rfl ?_
    refine j_aload_n hX 0 dX10_isRight_5 rfl rfl ?_
    refine j_getI (k := 32) hX hE cbX10 ty56 pc56 (by decide) rfl wd1172 rfl dX10_isRight_6 ?_
    refine j_icmp_ge hX (tgt := 59) dX10_isRight_9 (by decide) (fun hc => ?_) (fun hc => ?_)
    · rw [if_pos hc] at h
      refine j_iload_n hX 1 dX10_isRight_59 rfl rfl ?_
      obtain ⟨hz, h⟩ := chk_s h
      cases h
      exact j_zret hX hR hz dX10_isRight_60
    · rw [if_neg hc] at h
      refine j_aload_n hX 0 dX10_isRight_12 rfl rfl ?_
      refine j_getS (k := 4) hX hfl cbX10 ty56 (by decide) rfl wd1144 rfl sb56_4 dX10_isRight_13 ?_
      refine j_aload_n hX 0 dX10_isRight_16 rfl rfl ?_
      refine j_getS (k := 31) hX hfl cbX10 ty56 (by decide) rfl wd1171 rfl sb56_31 dX10_isRight_17 ?_
      refine j_iload_n hX 2 dX10_isRight_20 rfl rfl ?_
      obtain ⟨x1, hv, h⟩ := bs h
      refine j_iald hX hE ty77 pc77 hv dX10_isRight_21 ?_
      obtain ⟨x2, hv, h⟩ := bs h
      refine j_iald hX hE ty59 pc59 hv dX10_isRight_22 ?_
      refine j_aload_n hX 0 dX10_isRight_23 rfl rfl ?_
      refine j_iload_n hX 2 dX10_isRight_24 rfl rfl ?_
      obtain ⟨x3, h1, h⟩ := bs h
      refine j_callVI hX mwX10_aheadOf miX10_aheadOf wd1496 cbX10 ty56 hyX10_aheadOf (by omega) (by decide) ⟨Nat.zero_le _, Nat.zero_le _⟩ dX10_isRight_25 (s_X10_aheadOf hfl hE h1) npX10_aheadOf rfl (Nat.le_of_ble_eq_true rfl) ?_
      refine j_callSI hX mwX10_mayStand msX10_mayStand wd1512 hyX10_mayStand (by omega) (by decide) ⟨Nat.zero_le _, Nat.zero_le _⟩ dX10_isRight_28 (s_X10_mayStand hfl rfl) npX10_mayStand rfl (Nat.le_of_ble_eq_true rfl) ?_
      refine j_if_ne hX (tgt := 36) dX10_isRight_31 (by decide) (fun hc => ?_) (fun hc => ?_)
      · rw [if_neg hc] at h
        refine j_aload_n hX 0 dX10_isRight_36 rfl rfl ?_
        refine j_getS (k := 4) hX hfl cbX10 ty56 (by decide) rfl wd1144 rfl sb56_4 dX10_isRight_37 ?_
        refine j_aload_n hX 0 dX10_isRight_40 rfl rfl ?_
        refine j_getS (k := 31) hX hfl cbX10 ty56 (by decide) rfl wd1171 rfl sb56_31 dX10_isRight_41 ?_
        refine j_iload_n hX 2 dX10_isRight_44 rfl rfl ?_
        obtain ⟨x4, hv, h⟩ := bs h
        refine j_iald hX hE ty77 pc77 hv dX10_isRight_45 ?_
        obtain ⟨x5, hv, h⟩ := bs h
        refine j_iald hX hE ty59 pc59 hv dX10_isRight_46 ?_
        refine j_iconst hX dX10_isRight_47 (rc rfl) ?_
        refine j_icmp_ne hX (tgt := 53) dX10_isRight_48 (by decide) (fun hc => ?_) (fun hc => ?_)
        · rw [if_neg hc] at h
          refine j_iinc (L' := [(2, vI (w32 (v2 + 1))), (0, vR 56), (1, vI (v1))]) hX 2 dX10_isRight_53 hnl (by decide) rfl rfl ?_
          refine j_goto hX (tgt := 4) dX10_isRight_56 (by decide) ?_
          refine j_sub [1, 2, 0] rfl ?_
          exact ih _ _ h
        · rw [if_pos hc] at h
          refine j_iconst hX dX10_isRight_51 (rc rfl) ?_
          refine j_istore_n (L' := [(1, vI (1)), (0, vR 56), (2, vI (v2))]) hX dX10_isRight_52 rfl hnl (by decide) rfl ?_
          refine j_iinc (L' := [(2, vI (w32 (v2 + 1))), (1, vI (1)), (0, vR 56)]) hX 2 dX10_isRight_53 hnl (by decide) rfl rfl ?_
          refine j_goto hX (tgt := 4) dX10_isRight_56 (by decide) ?_
          refine j_sub [2, 1, 0] rfl ?_
          exact ih _ _ h
      · rw [if_pos hc] at h
        refine j_iconst hX dX10_isRight_34 (rc rfl) ?_
        cases h
        exact j_zret hX hR (Or.inl rfl) dX10_isRight_35
theorem s_X10_isRight {g : G0} {B : Nat → Nat} {n : Nat} {E : Mem → Mem}  {S : Mem} {r : Int} (hfl : g.2.2.2.2 = true) (hE : Lens E PM) (h : g_X10_isRight S = some r) : Cn g B n yX10_isRight cX10_isRight 3 (some .boolean) 2 [vR 56] (E S) (QcI g B n r (E S)) := by
  refine Cn.of (by decide +kernel) (Nat.le_of_ble_eq_true rfl) (fun X hg hnl hX hR => ?_)
  subst hg
  have hX : Ctx X cX10_isRight "TelegramFeelingsModel" 2 := hX
  unfold g_X10_isRight at h
  show JW X B n 0 0 0 [(0, vR 56)] [] (E S) (QM X (QcI (gX X) B n r (E S)))
  refine j_iconst hX dX10_isRight_0 (rc rfl) ?_
  refine j_istore_n (L' := [(1, vI (0)), (0, vR 56)]) hX dX10_isRight_1 rfl hnl (by decide) rfl ?_
  refine j_iconst hX dX10_isRight_2 (rc rfl) ?_
  refine j_istore_n (L' := [(2, vI (0)), (1, vI (0)), (0, vR 56)]) hX dX10_isRight_3 rfl hnl (by decide) rfl ?_
  refine j_sub [2, 1, 0] rfl ?_
  refine sl_X10_isRight_4 hX hR hfl hnl hE  _ _ _ h
theorem sj_X10_findJoined_100 {X : K0} {B : Nat → Nat} {n : Nat} {E : Mem → Mem} {S' : Mem} (hX : Ctx X cX10_findJoined "TelegramFeelingsModel" 6) (hR : CR X none) (hfl : (gX X).2.2.2.2 = true) (hnl : X.2.2.2.2.2.2.2.2.2.2.2.2.2.2 = 7) (hE : Lens E PM) {c : Int → Int → Int → Mem → Option Mem}   {v1 : Int} {v2 : Int} {v3 : Int} {v4 : Int} {S : Mem} (Hc : ∀ (v2 : Int) (v3 : Int) (v4 : Int) (S : Mem), c v2 v3 v4 S = some S' → JW X B n 0 0 42 [(0, vR 56), (1, vI (v1)), (2, vI (v2)), (3, vI (v3)), (4, vI (v4))] [] (E S) (QM X (QcV (gX X) B n (E S')))) (h : g_X10_findJoined_J100 c v1 v2 v3 v4 S = some S') : JW X B n 0 0 100 [(0, vR 56), (1, vI (v1)), (2, vI (v2)), (3, vI (v3)), (4, vI (v4))] [] (E S) (QM X (QcV (gX X) B n (E S'))) := by
  unfold g_X10_findJoined_J100 at h
  refine j_aload_n hX 0 dX10_findJoined_100 rfl rfl ?_
  refine j_getS (k := 33) hX hfl cbX10 ty56 (by decide) rfl wd1173 rfl sb56_33 dX10_findJoined_101 ?_
  refine j_iload hX 4 dX10_findJoined_104 rfl ?_
  obtain ⟨x9, hv, h⟩ := bs h
  refine j_iald hX hE ty78 pc78 hv dX10_findJoined_106 ?_
  refine j_iload_n hX 3 dX10_findJoined_107 rfl rfl ?_
  refine j_iadd hX dX10_findJoined_108 ?_
  refine j_istore (L' := [(5, vI (w32 (x9 + v3))), (0, vR 56), (1, vI (v1)), (2, vI (v2)), (3, vI (v3)), (4, vI (v4))]) hX dX10_findJoined_109 hnl (by decide) rfl ?_
  refine j_aload_n hX 1 dX10_findJoined_111 rfl rfl ?_
  refine j_getS (k := 34) hX hfl cbX10 ty56 (by decide) rfl wd1174 rfl sb56_34 dX10_findJoined_112 ?_
  refine j_iload hX 5 dX10_findJoined_115 rfl ?_
  obtain ⟨x10, hv, h⟩ := bs h
  refine j_iald hX hE ty79 pc79 hv dX10_findJoined_117 ?_
  refine j_iconst hX dX10_findJoined_118 (rc rfl) ?_
  refine j_iadd hX dX10_findJoined_119 ?_
  refine j_istore (L' := [(6, vI (w32 (x10 + 1))), (5, vI (w32 (x9 + v3))), (0, vR 56), (1, vI (v1)), (2, vI (v2)), (3, vI (v3)), (4, vI (v4))]) hX dX10_findJoined_120 hnl (by decide) rfl ?_
  refine j_iload hX 1 dX10_findJoined_122 rfl ?_
  refine j_aload_n hX 2 dX10_findJoined_124 rfl rfl ?_
  refine j_getS (k := 33) hX hfl cbX10 ty56 (by decide) rfl wd1173 rfl sb56_33 dX10_findJoined_125 ?_
  refine j_iload_n hX 3 dX10_findJoined_128 rfl rfl ?_
  obtain ⟨x11, hv, h⟩ := bs h
  refine j_iald hX hE ty78 pc78 hv dX10_findJoined_129 ?_
  refine j_icmp_gt hX (tgt := 174) dX10_findJoined_130 (by decide) (fun hc => ?_) (fun hc => ?_)
  · rw [if_pos hc] at h
    refine j_iinc (L' := [(4, vI (w32 (v4 + (-1)))), (6, vI (w32 (x10 + 1))), (5, vI (w32 (x9 + v3))), (0, vR 56), (1, vI (v1)), (2, vI (v2)), (3, vI (v3))]) hX 6 dX10_findJoined_174 hnl (by decide) rfl rfl ?_
    refine j_goto hX (tgt := 42) dX10_findJoined_177 (by decide) ?_
    refine j_sub [3, 4, 5, 6, 0] rfl ?_
    exact Hc _ _ _ _ h
  · rw [if_neg hc] at h
    refine j_iload hX 1 dX10_findJoined_133 rfl ?_
    refine j_aload_n hX 2 dX10_findJoined_135 rfl rfl ?_
    refine j_getS (k := 33) hX hfl cbX10 ty56 (by decide) rfl wd1173 rfl sb56_33 dX10_findJoined_136 ?_
    refine j_iload_n hX 3 dX10_findJoined_139 rfl rfl ?_
    obtain ⟨x12, hv, h⟩ := bs h
    refine j_iald hX hE ty78 pc78 hv dX10_findJoined_140 ?_
    refine j_icmp_ne hX (tgt := 158) dX10_findJoined_141 (by decide) (fun hc => ?_) (fun hc => ?_)
    · rw [if_neg hc] at h
      refine j_aload_n hX 2 dX10_findJoined_158 rfl rfl ?_
      refine j_getS (k := 33) hX hfl cbX10 ty56 (by decide) rfl wd1173 rfl sb56_33 dX10_findJoined_159 ?_
      refine j_iload_n hX 3 dX10_findJoined_162 rfl rfl ?_
      refine j_iload hX 1 dX10_findJoined_163 rfl ?_
      obtain ⟨S13, hv, h⟩ := bs h
      refine j_iast hX hE ty78 pc78 hv dX10_findJoined_165 ?_
      refine j_aload_n hX 2 dX10_findJoined_166 rfl rfl ?_
      refine j_getS (k := 34) hX hfl cbX10 ty56 (by decide) rfl wd1174 rfl sb56_34 dX10_findJoined_167 ?_
      refine j_iload_n hX 3 dX10_findJoined_170 rfl rfl ?_
      refine j_iload hX 0 dX10_findJoined_171 rfl ?_
      obtain ⟨S14, hv, h⟩ := bs h
      refine j_iast hX hE ty79 pc79 hv dX10_findJoined_173 ?_
      refine j_iinc (L' := [(4, vI (w32 (v4 + (-1)))), (6, vI (w32 (x10 + 1))), (5, vI (w32 (x9 + v3))), (0, vR 56), (1, vI (v1)), (2, vI (v2)), (3, vI (v3))]) hX 6 dX10_findJoined_174 hnl (by decide) rfl rfl ?_
      refine j_goto hX (tgt := 42) dX10_findJoined_177 (by decide) ?_
      refine j_sub [3, 4, 5, 6, 0] rfl ?_
      exact Hc _ _ _ _ h
    · rw [if_pos hc] at h
      refine j_iload hX 0 dX10_findJoined_144 rfl ?_
      refine j_aload_n hX 2 dX10_findJoined_146 rfl rfl ?_
      refine j_getS (k := 34) hX hfl cbX10 ty56 (by decide) rfl wd1174 rfl sb56_34 dX10_findJoined_147 ?_
      refine j_iload_n hX 3 dX10_findJoined_150 rfl rfl ?_
      obtain ⟨x15, hv, h⟩ := bs h
      refine j_iald hX hE ty79 pc79 hv dX10_findJoined_151 ?_
      refine j_icmp_lt hX (tgt := 158) dX10_findJoined_152 (by decide) (fun hc => ?_) (fun hc => ?_)
      · rw [if_pos hc] at h
        refine j_aload_n hX 2 dX10_findJoined_158 rfl rfl ?_
        refine j_getS (k := 33) hX hfl cbX10 ty56 (by decide) rfl wd1173 rfl sb56_33 dX10_findJoined_159 ?_
        refine j_iload_n hX 3 dX10_findJoined_162 rfl rfl ?_
        refine j_iload hX 1 dX10_findJoined_163 rfl ?_
        obtain ⟨S16, hv, h⟩ := bs h
        refine j_iast hX hE ty78 pc78 hv dX10_findJoined_165 ?_
        refine j_aload_n hX 2 dX10_findJoined_166 rfl rfl ?_
        refine j_getS (k := 34) hX hfl cbX10 ty56 (by decide) rfl wd1174 rfl sb56_34 dX10_findJoined_167 ?_
        refine j_iload_n hX 3 dX10_findJoined_170 rfl rfl ?_
        refine j_iload hX 0 dX10_findJoined_171 rfl ?_
        obtain ⟨S17, hv, h⟩ := bs h
        refine j_iast hX hE ty79 pc79 hv dX10_findJoined_173 ?_
        refine j_iinc (L' := [(4, vI (w32 (v4 + (-1)))), (6, vI (w32 (x10 + 1))), (5, vI (w32 (x9 + v3))), (0, vR 56), (1, vI (v1)), (2, vI (v2)), (3, vI (v3))]) hX 6 dX10_findJoined_174 hnl (by decide) rfl rfl ?_
        refine j_goto hX (tgt := 42) dX10_findJoined_177 (by decide) ?_
        refine j_sub [3, 4, 5, 6, 0] rfl ?_
        exact Hc _ _ _ _ h
      · rw [if_neg hc] at h
        refine j_goto hX (tgt := 174) dX10_findJoined_155 (by decide) ?_
        refine j_iinc (L' := [(4, vI (w32 (v4 + (-1)))), (6, vI (w32 (x10 + 1))), (5, vI (w32 (x9 + v3))), (0, vR 56), (1, vI (v1)), (2, vI (v2)), (3, vI (v3))]) hX 6 dX10_findJoined_174 hnl (by decide) rfl rfl ?_
        refine j_goto hX (tgt := 42) dX10_findJoined_177 (by decide) ?_
        refine j_sub [3, 4, 5, 6, 0] rfl ?_
        exact Hc _ _ _ _ h
theorem sj_X10_findJoined_79 {X : K0} {B : Nat → Nat} {n : Nat} {E : Mem → Mem} {S' : Mem} (hX : Ctx X cX10_findJoined "TelegramFeelingsModel" 6) (hR : CR X none) (hfl : (gX X).2.2.2.2 = true) (hnl : X.2.2.2.2.2.2.2.2.2.2.2.2.2.2 = 7) (hE : Lens E PM) {c : Int → Int → Int → Mem → Option Mem} {k97 : Mem → Option Mem}  {v1 : Int} {v2 : Int} {v3 : Int} {v4 : Int} {S : Mem} (Hc : ∀ (v2 : Int) (v3 : Int) (v4 : Int) (S : Mem), c v2 v3 v4 S = some S' → JW X B n 0 0 42 [(0, vR 56), (1, vI (v1)), (2, vI (v2)), (3, vI (v3)), (4, vI (v4))] [] (E S) (QM X (QcV (gX X) B n (E S')))) (K97 : ∀ (S : Mem), k97 S = some S' → JW X B n 0 0 97 [(0, vR 56), (1, vI (v1))] [] (E S) (QM X (QcV (gX X) B n (E S'))))(h : g_X10_findJoined_J79 c k97 v1 v2 v3 v4 S = some S') : JW X B n 0 0 79 [(0, vR 56), (1, vI (v1)), (2, vI (v2)), (3, vI (v3)), (4, vI (v4))] [] (E S) (QM X (QcV (gX X) B n (E S'))) := by
  unfold g_X10_findJoined_J79 at h
  refine j_iload_n hX 2 dX10_findJoined_79 rfl rfl ?_
  refine j_aload_n hX 0 dX10_findJoined_80 rfl rfl ?_
  refine j_getS (k := 10) hX hfl cbX10 ty56 (by decide) rfl wd1150 rfl sb56_10 dX10_findJoined_81 ?_
  refine j_iconst hX dX10_findJoined_84 (rc rfl) ?_
  refine j_iald hX hE ty64 pc64 (ldk_c (k := 2) (by decide)) dX10_findJoined_85 ?_
  refine j_icmp_le hX (tgt := 100) dX10_findJoined_86 (by decide) (fun hc => ?_) (fun hc => ?_)
  · rw [if_pos hc] at h
    refine j_sub [0, 1, 2, 3, 4] rfl ?_
    exact sj_X10_findJoined_100 hX hR hfl hnl hE Hc  h
  · rw [if_neg hc] at h
    refine j_iload hX 4 dX10_findJoined_89 rfl ?_
    refine j_iload_n hX 1 dX10_findJoined_91 rfl rfl ?_
    refine j_iconst hX dX10_findJoined_92 (rc rfl) ?_
    refine j_isub hX dX10_findJoined_93 ?_
    refine j_icmp_ge hX (tgt := 100) dX10_findJoined_94 (by decide) (fun hc => ?_) (fun hc => ?_)
    · rw [if_pos hc] at h
      refine j_sub [0, 1, 2, 3, 4] rfl ?_
      exact sj_X10_findJoined_100 hX hR hfl hnl hE Hc  h
    · rw [if_neg hc] at h
      refine j_sub [0, 1] rfl ?_
      exact K97 _ h
theorem sl_X10_findJoined_42 {X : K0} {B : Nat → Nat} {n : Nat} {E : Mem → Mem} {S' : Mem} (hX : Ctx X cX10_findJoined "TelegramFeelingsModel" 6) (hR : CR X none) (hfl : (gX X).2.2.2.2 = true) (hnl : X.2.2.2.2.2.2.2.2.2.2.2.2.2.2 = 7) (hE : Lens E PM) {k97 : Mem → Option Mem} {k180 : Mem → Option Mem} {v1 : Int} (K97 : ∀ (S : Mem), k97 S = some S' → JW X B n 0 0 97 [(0, vR 56), (1, vI (v1))] [] (E S) (QM X (QcV (gX X) B n (E S')))) (K180 : ∀ (S : Mem), k180 S = some S' → JW X B n 0 0 180 [(0, vR 56), (1, vI (v1))] [] (E S) (QM X (QcV (gX X) B n (E S')))) : ∀ (fu : Nat) (v2 : Int) (v3 : Int) (v4 : Int) (S : Mem), g_X10_findJoined_L42 k97 k180 v1 fu v2 v3 v4 S = some S' → JW X B n 0 0 42 [(0, vR 56), (1, vI (v1)), (2, vI (v2)), (3, vI (v3)), (4, vI (v4))] [] (E S) (QM X (QcV (gX X) B n (E S'))) := by
  intro fu
  induction fu with
  | zero =>
    intro v2 v3 v4 S h
    rw [g_X10_findJoined_L42] at h
    cases h
  | succ fu ih =>
    intro v2 v3 v4 S h
    rw [g_X10_findJoined_L42] at h
    refine j_iload hX 4 dX10_findJoined_42 rfl ?_
    refine j_if_lt hX (tgt := 180) dX10_findJoined_44 (by decide) (fun hc => ?_) (fun hc => ?_)
    · rw [if_pos hc] at h
      refine j_sub [0, 1] rfl ?_
      exact K180 _ h
    · rw [if_neg hc] at h
      refine j_iload_n hX 2 dX10_findJoined_47 rfl rfl ?_
      refine j_aload_n hX 0 dX10_findJoined_48 rfl rfl ?_
      refine j_getS (k := 5) hX hfl cbX10 ty56 (by decide) rfl wd1145 rfl sb56_5 dX10_findJoined_49 ?_
      refine j_aload_n hX 0 dX10_findJoined_52 rfl rfl ?_
      refine j_getS (k := 31) hX hfl cbX10 ty56 (by decide) rfl wd1171 rfl sb56_31 dX10_findJoined_53 ?_
      refine j_iload hX 4 dX10_findJoined_56 rfl ?_
      obtain ⟨x4, hv, h⟩ := bs h
      refine j_iald hX hE ty77 pc77 hv dX10_findJoined_58 ?_
      obtain ⟨x5, hv, h⟩ := bs h
      refine j_iald hX hE ty60 pc60 hv dX10_findJoined_59 ?_
      refine j_iadd hX dX10_findJoined_60 ?_
      refine j_istore_n (L' := [(2, vI (w32 (v2 + x5))), (0, vR 56), (1, vI (v1)), (3, vI (v3)), (4, vI (v4))]) hX dX10_findJoined_61 rfl hnl (by decide) rfl ?_
      refine j_aload_n hX 1 dX10_findJoined_62 rfl rfl ?_
      refine j_iload hX 4 dX10_findJoined_63 rfl ?_
      obtain ⟨x7, S6, h1, h⟩ := bd2_s h
      refine j_callVI hX mwX10_priceAt miX10_priceAt wd1492 cbX10 ty56 hyX10_priceAt (by omega) (by decide) ⟨Nat.zero_le _, Nat.zero_le _⟩ dX10_findJoined_65 (s_X10_priceAt hfl hE h1) npX10_priceAt rfl (Nat.le_of_ble_eq_true rfl) ?_
      refine j_iload_n hX 3 dX10_findJoined_68 rfl rfl ?_
      refine j_icmp_le hX (tgt := 79) dX10_findJoined_69 (by decide) (fun hc => ?_) (fun hc => ?_)
      · rw [if_pos hc] at h
        refine j_sub [1, 2, 0, 3, 4] rfl ?_
        exact sj_X10_findJoined_79 hX hR hfl hnl hE ih K97 h
      · rw [if_neg hc] at h
        refine j_aload_n hX 1 dX10_findJoined_72 rfl rfl ?_
        refine j_iload hX 4 dX10_findJoined_73 rfl ?_
        obtain ⟨x19, S18, h1, h⟩ := bd2_s h
        refine j_callVI hX mwX10_priceAt miX10_priceAt wd1492 cbX10 ty56 hyX10_priceAt (by omega) (by decide) ⟨Nat.zero_le _, Nat.zero_le _⟩ dX10_findJoined_75 (s_X10_priceAt hfl hE h1) npX10_priceAt rfl (Nat.le_of_ble_eq_true rfl) ?_
        refine j_istore_n (L' := [(3, vI (x19)), (2, vI (w32 (v2 + x5))), (0, vR 56), (1, vI (v1)), (4, vI (v4))]) hX dX10_findJoined_78 rfl hnl (by decide) rfl ?_
        refine j_sub [2, 3, 1, 0, 4] rfl ?_
        exact sj_X10_findJoined_79 hX hR hfl hnl hE ih K97 h
theorem sl_X10_findJoined_16 {X : K0} {B : Nat → Nat} {n : Nat} {E : Mem → Mem} {S' : Mem} (hX : Ctx X cX10_findJoined "TelegramFeelingsModel" 6) (hR : CR X none) (hfl : (gX X).2.2.2.2 = true) (hnl : X.2.2.2.2.2.2.2.2.2.2.2.2.2.2 = 7) (hE : Lens E PM)    : ∀ (fu : Nat) (v1 : Int) (S : Mem), g_X10_findJoined_L16 fu v1 S = some S' → JW X B n 0 0 16 [(0, vR 56), (1, vI (v1))] [] (E S) (QM X (QcV (gX X) B n (E S'))) := by
  intro fu
  induction fu with
  | zero =>
    intro v1 S h
    rw [g_X10_findJoined_L16] at h
    cases h
  | succ fu ih =>
    intro v1 S h
    rw [g_X10_findJoined_L16] at h
    refine j_iload_n hX 1 dX10_findJoined_16 rfl rfl ?_
    refine j_aload_n hX 0 dX10_findJoined_17 rfl rfl ?_
    refine j_getI (k := 32) hX hE cbX10 ty56 pc56 (by decide) rfl wd1172 rfl dX10_findJoined_18 ?_
    refine j_icmp_gt hX (tgt := 186) dX10_findJoined_21 (by decide) (fun hc => ?_) (fun hc => ?_)
    · rw [if_pos hc] at h
      cases h
      exact j_vret hX hR dX10_findJoined_186
    · rw [if_neg hc] at h
      refine j_aload_n hX 0 dX10_findJoined_24 rfl rfl ?_
      refine j_getS (k := 33) hX hfl cbX10 ty56 (by decide) rfl wd1173 rfl sb56_33 dX10_findJoined_25 ?_
      refine j_iload_n hX 1 dX10_findJoined_28 rfl rfl ?_
      refine j_ldcw (z := 9999999) hX wd1491 (by decide) dX10_findJoined_29 (rc rfl) ?_
      obtain ⟨S3, hv, h⟩ := bs h
      refine j_iast hX hE ty78 pc78 hv dX10_findJoined_32 ?_
      refine j_iconst hX dX10_findJoined_33 (rc rfl) ?_
      refine j_istore_n (L' := [(2, vI (0)), (0, vR 56), (1, vI (v1))]) hX dX10_findJoined_34 rfl hnl (by decide) rfl ?_
      refine j_iconst hX dX10_findJoined_35 (rc rfl) ?_
      refine j_istore_n (L' := [(3, vI (0)), (2, vI (0)), (0, vR 56), (1, vI (v1))]) hX dX10_findJoined_36 rfl hnl (by decide) rfl ?_
      refine j_iload_n hX 3 dX10_findJoined_37 rfl rfl ?_
      refine j_iconst hX dX10_findJoined_38 (rc rfl) ?_
      refine j_isub hX dX10_findJoined_39 ?_
      refine j_istore (L' := [(4, vI (w32 (v1 - 1))), (3, vI (0)), (2, vI (0)), (0, vR 56), (1, vI (v1))]) hX dX10_findJoined_40 hnl (by decide) rfl ?_
      refine j_sub [3, 4, 2, 1, 0] rfl ?_
      refine sl_X10_findJoined_42 hX hR hfl hnl hE (fun S20 h => ?_) (fun S21 h => ?_) _ _ _ _ _ h
      · refine j_goto hX (tgt := 180) dX10_findJoined_97 (by decide) ?_
        refine j_iinc (L' := [(1, vI (w32 (v1 + 1))), (0, vR 56)]) hX 1 dX10_findJoined_180 hnl (by decide) rfl rfl ?_
        refine j_goto hX (tgt := 16) dX10_findJoined_183 (by decide) ?_
        refine j_sub [1, 0] rfl ?_
        exact ih _ _ h
      · refine j_iinc (L' := [(1, vI (w32 (v1 + 1))), (0, vR 56)]) hX 1 dX10_findJoined_180 hnl (by decide) rfl rfl ?_
        refine j_goto hX (tgt := 16) dX10_findJoined_183 (by decide) ?_
        refine j_sub [1, 0] rfl ?_
        exact ih _ _ h
theorem s_X10_findJoined {g : G0} {B : Nat → Nat} {n : Nat} {E : Mem → Mem}  {S : Mem} {S' : Mem} (hfl : g.2.2.2.2 = true) (hE : Lens E PM) (h : g_X10_findJoined S = some S') : Cn g B n yX10_findJoined cX10_findJoined 7 none 6 [vR 56] (E S) (QcV g B n (E S')) := by
  refine Cn.of (by decide +kernel) (Nat.le_of_ble_eq_true rfl) (fun X hg hnl hX hR => ?_)
  subst hg
  have hX : Ctx X cX10_findJoined "TelegramFeelingsModel" 6 := hX
  unfold g_X10_findJoined at h
  show JW X B n 0 0 0 [(0, vR 56)] [] (E S) (QM X (QcV (gX X) B n (E S')))
  refine j_aload_n hX 0 dX10_findJoined_0 rfl rfl ?_
  refine j_getS (k := 33) hX hfl cbX10 ty56 (by decide) rfl wd1173 rfl sb56_33 dX10_findJoined_1 ?_
  refine j_iconst hX dX10_findJoined_4 (rc rfl) ?_
  refine j_iconst hX dX10_findJoined_5 (rc rfl) ?_
  refine j_iast hX hE ty78 pc78 (stk_c (k := 0) (by decide)) dX10_findJoined_6 ?_
  obtain ⟨S1, hx, h⟩ := ap_s h
  rw [← hx]
  clear hx
  refine j_aload_n hX 0 dX10_findJoined_7 rfl rfl ?_
  refine j_getS (k := 34) hX hfl cbX10 ty56 (by decide) rfl wd1174 rfl sb56_34 dX10_findJoined_8 ?_
  refine j_iconst hX dX10_findJoined_11 (rc rfl) ?_
  refine j_iconst hX dX10_findJoined_12 (rc rfl) ?_
  refine j_iast hX hE ty79 pc79 (stk_c (k := 0) (by decide)) dX10_findJoined_13 ?_
  obtain ⟨S2, hx, h⟩ := ap_s h
  rw [← hx]
  clear hx
  refine j_iconst hX dX10_findJoined_14 (rc rfl) ?_
  refine j_istore_n (L' := [(1, vI (1)), (0, vR 56)]) hX dX10_findJoined_15 rfl hnl (by decide) rfl ?_
  refine j_sub [1, 0] rfl ?_
  refine sl_X10_findJoined_16 hX hR hfl hnl hE  _ _ _ h
theorem s_X10_wire {g : G0} {B : Nat → Nat} {n : Nat} {E : Mem → Mem} {a1 : Int} {a2 : Int} {S : Mem} {r : Int} {S' : Mem} (hfl : g.2.2.2.2 = true) (hE : Lens E PM) (h : g_X10_wire a1 a2 S = some (r, S')) : Cn g B n yX10_wire cX10_wire 4 (some .int) 7 [vR 56, vI (a1), vI (a2)] (E S) (QcI g B n r (E S')) := by
  refine Cn.of (by decide +kernel) (Nat.le_of_ble_eq_true rfl) (fun X hg hnl hX hR => ?_)
  subst hg
  have hX : Ctx X cX10_wire "TelegramFeelingsModel" 7 := hX
  unfold g_X10_wire at h
  show JW X B n 0 0 0 [(0, vR 56), (1, vI (a1)), (2, vI (a2))] [] (E S) (QM X (QcI (gX X) B n r (E S')))
  refine j_iload_n hX 1 dX10_wire_0 rfl rfl ?_
  obtain ⟨x1, h1, h⟩ := bs h
  refine j_callSI hX mwX10_isShelf msX10_isShelf wd1337 hyX10_isShelf (by omega) (by decide) ⟨Nat.zero_le _, Nat.zero_le _⟩ dX10_wire_1 (s_X10_isShelf hfl h1) npX10_isShelf rfl (Nat.le_of_ble_eq_true rfl) ?_
  refine j_if_eq hX (tgt := 16) dX10_wire_4 (by decide) (fun hc => ?_) (fun hc => ?_)
  · rw [if_pos hc] at h
    refine j_iconst hX dX10_wire_16 (rc rfl) ?_
    cases h
    exact j_iret hX hR dX10_wire_17
  · rw [if_neg hc] at h
    refine j_iload_n hX 2 dX10_wire_7 rfl rfl ?_
    refine j_iconst hX dX10_wire_8 (rc rfl) ?_
    refine j_iconst hX dX10_wire_9 (rc rfl) ?_
    refine j_callSI hX mwX10_in msX10_in wd1326 hyX10_in (by omega) (by decide) ⟨Nat.zero_le _, Nat.zero_le _⟩ dX10_wire_10 (s_X10_in hfl rfl) npX10_in rfl (Nat.le_of_ble_eq_true rfl) ?_
    refine j_if_ne hX (tgt := 18) dX10_wire_13 (by decide) (fun hc => ?_) (fun hc => ?_)
    · rw [if_neg hc] at h
      refine j_aload_n hX 0 dX10_wire_18 rfl rfl ?_
      refine j_iload_n hX 1 dX10_wire_19 rfl rfl ?_
      refine j_iconst hX dX10_wire_20 (rc rfl) ?_
      obtain ⟨x2, h1, h⟩ := bs h
      refine j_callVI hX mwX10_rowFault miX10_rowFault wd1475 cbX10 ty56 hyX10_rowFault (by omega) (by decide) ⟨Nat.zero_le _, Nat.zero_le _⟩ dX10_wire_21 (s_X10_rowFault hfl hE h1) npX10_rowFault rfl (Nat.le_of_ble_eq_true rfl) ?_
      refine j_istore_n (L' := [(3, vI (x2)), (0, vR 56), (1, vI (a1)), (2, vI (a2))]) hX dX10_wire_24 rfl hnl (by decide) rfl ?_
      refine j_iload_n hX 0 dX10_wire_25 rfl rfl ?_
      refine j_if_ge hX (tgt := 31) dX10_wire_26 (by decide) (fun hc => ?_) (fun hc => ?_)
      · rw [if_pos hc] at h
        refine j_aload_n hX 1 dX10_wire_31 rfl rfl ?_
        refine j_iload_n hX 2 dX10_wire_32 rfl rfl ?_
        obtain ⟨S3, h1, h⟩ := bs h
        refine j_callVV hX mwX10_layWired miX10_layWired wd1479 cbX10 ty56 hyX10_layWired (by omega) (by decide) ⟨Nat.zero_le _, Nat.zero_le _⟩ dX10_wire_33 (s_X10_layWired hfl hE h1) npX10_layWired rfl (Nat.le_of_ble_eq_true rfl) ?_
        refine j_aload_n hX 1 dX10_wire_36 rfl rfl ?_
        obtain ⟨S4, h1, h⟩ := bs h
        refine j_callVV hX mwX10_findJoined miX10_findJoined wd1487 cbX10 ty56 hyX10_findJoined (by omega) (by decide) ⟨Nat.zero_le _, Nat.zero_le _⟩ dX10_wire_37 (s_X10_findJoined hfl hE h1) npX10_findJoined rfl (Nat.le_of_ble_eq_true rfl) ?_
        refine j_iload_n hX 3 dX10_wire_40 rfl rfl ?_
        by_cases hc0 : a2 = 0
        · rw [if_pos hc0] at h
          refine j_tin hX (tgt := 76) dX10_wire_41 hc0 (by decide) (by decide) rfl (by decide) ?_
          refine j_aload_n hX 1 dX10_wire_76 rfl rfl ?_
          obtain ⟨x6, S5, h1, h⟩ := bd2_s h
          refine j_callVI hX mwX10_priceAll miX10_priceAll wd1500 cbX10 ty56 hyX10_priceAll (by omega) (by decide) ⟨Nat.zero_le _, Nat.zero_le _⟩ dX10_wire_77 (s_X10_priceAll hfl hE h1) npX10_priceAll rfl (Nat.le_of_ble_eq_true rfl) ?_
          cases h
          exact j_iret hX hR dX10_wire_80
        · rw [if_neg hc0] at h
          by_cases hc1 : a2 = 1
          · rw [if_pos hc1] at h
            refine j_tin hX (tgt := 81) dX10_wire_41 hc1 (by decide) (by decide) rfl (by decide) ?_
            refine j_aload_n hX 1 dX10_wire_81 rfl rfl ?_
            obtain ⟨x7, h1, h⟩ := bs h
            refine j_callVI hX mwX10_senseAll miX10_senseAll wd1504 cbX10 ty56 hyX10_senseAll (by omega) (by decide) ⟨Nat.zero_le _, Nat.zero_le _⟩ dX10_wire_82 (s_X10_senseAll hfl hE h1) npX10_senseAll rfl (Nat.le_of_ble_eq_true rfl) ?_
            cases h
            exact j_iret hX hR dX10_wire_85
          · rw [if_neg hc1] at h
            by_cases hc2 : a2 = 2
            · rw [if_pos hc2] at h
              refine j_tin hX (tgt := 86) dX10_wire_41 hc2 (by decide) (by decide) rfl (by decide) ?_
              refine j_aload_n hX 1 dX10_wire_86 rfl rfl ?_
              obtain ⟨x8, h1, h⟩ := bs h
              refine j_callVI hX mwX10_isRight miX10_isRight wd1508 cbX10 ty56 hyX10_isRight (by omega) (by decide) ⟨Nat.zero_le _, Nat.zero_le _⟩ dX10_wire_87 (s_X10_isRight hfl hE h1) npX10_isRight rfl (Nat.le_of_ble_eq_true rfl) ?_
              refine j_if_eq hX (tgt := 97) dX10_wire_90 (by decide) (fun hc => ?_) (fun hc => ?_)
              · rw [if_pos hc] at h
                refine j_iconst hX dX10_wire_97 (rc rfl) ?_
                cases h
                exact j_iret hX hR dX10_wire_98
              · rw [if_neg hc] at h
                refine j_iconst hX dX10_wire_93 (rc rfl) ?_
                refine j_goto hX (tgt := 98) dX10_wire_94 (by decide) ?_
                cases h
                exact j_iret hX hR dX10_wire_98
            · rw [if_neg hc2] at h
              by_cases hc3 : a2 = 3
              · rw [if_pos hc3] at h
                refine j_tin hX (tgt := 99) dX10_wire_41 hc3 (by decide) (by decide) rfl (by decide) ?_
                refine j_aload_n hX 1 dX10_wire_99 rfl rfl ?_
                refine j_getI (k := 32) hX hE cbX10 ty56 pc56 (by decide) rfl wd1172 rfl dX10_wire_100 ?_
                cases h
                exact j_iret hX hR dX10_wire_103
              · rw [if_neg hc3] at h
                by_cases hc4 : a2 = 4
                · rw [if_pos hc4] at h
                  refine j_tin hX (tgt := 104) dX10_wire_41 hc4 (by decide) (by decide) rfl (by decide) ?_
                  refine j_aload_n hX 1 dX10_wire_104 rfl rfl ?_
                  refine j_getS (k := 33) hX hfl cbX10 ty56 (by decide) rfl wd1173 rfl sb56_33 dX10_wire_105 ?_
                  refine j_aload_n hX 1 dX10_wire_108 rfl rfl ?_
                  refine j_getI (k := 32) hX hE cbX10 ty56 pc56 (by decide) rfl wd1172 rfl dX10_wire_109 ?_
                  obtain ⟨x9, hv, h⟩ := bs h
                  refine j_iald hX hE ty78 pc78 hv dX10_wire_112 ?_
                  cases h
                  exact j_iret hX hR dX10_wire_113
                · rw [if_neg hc4] at h
                  refine j_tout hX (tgt := 114) dX10_wire_41 (by omega) (by decide) ?_
                  refine j_aload_n hX 1 dX10_wire_114 rfl rfl ?_
                  refine j_getS (k := 34) hX hfl cbX10 ty56 (by decide) rfl wd1174 rfl sb56_34 dX10_wire_115 ?_
                  refine j_aload_n hX 1 dX10_wire_118 rfl rfl ?_
                  refine j_getI (k := 32) hX hE cbX10 ty56 pc56 (by decide) rfl wd1172 rfl dX10_wire_119 ?_
                  obtain ⟨x10, hv, h⟩ := bs h
                  refine j_iald hX hE ty79 pc79 hv dX10_wire_122 ?_
                  cases h
                  exact j_iret hX hR dX10_wire_123
      · rw [if_neg hc] at h
        refine j_iload_n hX 0 dX10_wire_29 rfl rfl ?_
        cases h
        exact j_iret hX hR dX10_wire_30
    · rw [if_pos hc] at h
      refine j_iconst hX dX10_wire_16 (rc rfl) ?_
      cases h
      exact j_iret hX hR dX10_wire_17
theorem s_X10_sayAt {g : G0} {B : Nat → Nat} {n : Nat} {M : Mem} {a1 : Int} {a2 : Int} {a3 : Int} {a4 : Int} {r : Int} (hfl : g.2.2.2.2 = true) (h : g_X10_sayAt a1 a2 a3 a4 = r) : Cn g B n yX10_sayAt cX10_sayAt 4 (some .int) 1 [vI (a1), vI (a2), vI (a3), vI (a4)] M (QcI g B n r M) := by
  refine Cn.of (by decide +kernel) (Nat.le_of_ble_eq_true rfl) (fun X hg hnl hX hR => ?_)
  subst hg
  have hX : Ctx X cX10_sayAt "TelegramFeelingsModel" 1 := hX
  unfold g_X10_sayAt at h
  show JW X B n 0 0 0 [(0, vI (a1)), (1, vI (a2)), (2, vI (a3)), (3, vI (a4))] [] (M) (QM X (QcI (gX X) B n r M))
  refine j_iload_n hX 0 dX10_sayAt_0 rfl rfl ?_
  refine j_iconst hX dX10_sayAt_1 (rc rfl) ?_
  refine j_imul hX dX10_sayAt_2 ?_
  refine j_iload_n hX 1 dX10_sayAt_3 rfl rfl ?_
  refine j_iadd hX dX10_sayAt_4 ?_
  refine j_iconst hX dX10_sayAt_5 (rc rfl) ?_
  refine j_imul hX dX10_sayAt_6 ?_
  refine j_iload_n hX 2 dX10_sayAt_7 rfl rfl ?_
  refine j_iadd hX dX10_sayAt_8 ?_
  refine j_bipush hX dX10_sayAt_9 (rc rfl) (by decide) ?_
  refine j_imul hX dX10_sayAt_11 ?_
  refine j_iload_n hX 3 dX10_sayAt_12 rfl rfl ?_
  refine j_iadd hX dX10_sayAt_13 ?_
  subst h
  exact j_iret hX hR dX10_sayAt_14
theorem sj_X10_sayBy_60 {X : K0} {B : Nat → Nat} {n : Nat} {E : Mem → Mem} {r : Int} {S' : Mem} (hX : Ctx X cX10_sayBy "TelegramFeelingsModel" 5) (hR : CR X (some .int)) (hfl : (gX X).2.2.2.2 = true) (hnl : X.2.2.2.2.2.2.2.2.2.2.2.2.2.2 = 7) (hE : Lens E PM)   {v1 : Int} {v2 : Int} {v3 : Int} {v5 : Int} {s1 : Int} {s2 : Int} {s3 : Int} {S : Mem} (h : g_X10_sayBy_J60 v1 v2 v3 v5 s1 s2 s3 S = some (r, S')) : JW X B n 0 0 60 [(0, vR 56), (1, vI (v1)), (2, vI (v2)), (3, vI (v3)), (5, vI (v5))] [vI (s3), vI (s2), vI (s1), vR 80] (E S) (QM X (QcI (gX X) B n r (E S'))) := by
  unfold g_X10_sayBy_J60 at h
  refine j_iload hX 4 dX10_sayBy_60 rfl ?_
  refine j_aload_n hX 0 dX10_sayBy_62 rfl rfl ?_
  refine j_getS (k := 3) hX hfl cbX10 ty56 (by decide) rfl wd1143 rfl sb56_3 dX10_sayBy_63 ?_
  refine j_iload_n hX 1 dX10_sayBy_66 rfl rfl ?_
  obtain ⟨x5, hv, h⟩ := bs h
  refine j_iald hX hE ty58 pc58 hv dX10_sayBy_67 ?_
  refine j_ior hX dX10_sayBy_68 ?_
  refine j_callSI hX mwX10_sayAt msX10_sayAt wd1523 hyX10_sayAt (by omega) (by decide) ⟨Nat.zero_le _, Nat.zero_le _⟩ dX10_sayBy_69 (s_X10_sayAt hfl rfl) npX10_sayAt rfl (Nat.le_of_ble_eq_true rfl) ?_
  obtain ⟨x6, hv, h⟩ := bs h
  refine j_iald hX hE ty80 pc80 hv dX10_sayBy_72 ?_
  refine j_istore (L' := [(6, vI (x6)), (0, vR 56), (1, vI (v1)), (2, vI (v2)), (3, vI (v3)), (5, vI (v5))]) hX dX10_sayBy_73 hnl (by decide) rfl ?_
  refine j_iload hX 0 dX10_sayBy_75 rfl ?_
  refine j_ldcw (z := 9999999) hX wd1491 (by decide) dX10_sayBy_77 (rc rfl) ?_
  refine j_icmp_lt hX (tgt := 89) dX10_sayBy_80 (by decide) (fun hc => ?_) (fun hc => ?_)
  · rw [if_pos hc] at h
    refine j_iload hX 0 dX10_sayBy_89 rfl ?_
    refine j_bipush hX dX10_sayBy_91 (rc rfl) (by decide) ?_
    refine j_aload_n hX 1 dX10_sayBy_93 rfl rfl ?_
    refine j_iload_n hX 2 dX10_sayBy_94 rfl rfl ?_
    refine j_iload_n hX 4 dX10_sayBy_95 rfl rfl ?_
    refine j_iload_n hX 3 dX10_sayBy_96 rfl rfl ?_
    obtain ⟨x8, S7, h1, h⟩ := bd2_s h
    refine j_callVI hX mwX10_priceIn miX10_priceIn wd1456 cbX10 ty56 hyX10_priceIn (by omega) (by decide) ⟨Nat.zero_le _, Nat.zero_le _⟩ dX10_sayBy_97 (s_X10_priceIn hfl hE h1) npX10_priceIn rfl (Nat.le_of_ble_eq_true rfl) ?_
    refine j_imul hX dX10_sayBy_100 ?_
    refine j_iadd hX dX10_sayBy_101 ?_
    refine j_iconst hX dX10_sayBy_102 (rc rfl) ?_
    refine j_iadd hX dX10_sayBy_103 ?_
    cases h
    exact j_iret hX hR dX10_sayBy_104
  · rw [if_neg hc] at h
    refine j_ldcw (z := 9999999) hX wd1491 (by decide) dX10_sayBy_83 (rc rfl) ?_
    refine j_goto hX (tgt := 104) dX10_sayBy_86 (by decide) ?_
    cases h
    exact j_iret hX hR dX10_sayBy_104
theorem s_X10_sayBy {g : G0} {B : Nat → Nat} {n : Nat} {E : Mem → Mem} {a1 : Int} {a2 : Int} {a3 : Int} {a4 : Int} {a5 : Int} {S : Mem} {r : Int} {S' : Mem} (hfl : g.2.2.2.2 = true) (hE : Lens E PM) (h : g_X10_sayBy a1 a2 a3 a4 a5 S = some (r, S')) : Cn g B n yX10_sayBy cX10_sayBy 7 (some .int) 5 [vR 56, vI (a1), vI (a2), vI (a3), vI (a4), vI (a5)] (E S) (QcI g B n r (E S')) := by
  refine Cn.of (by decide +kernel) (Nat.le_of_ble_eq_true rfl) (fun X hg hnl hX hR => ?_)
  subst hg
  have hX : Ctx X cX10_sayBy "TelegramFeelingsModel" 5 := hX
  unfold g_X10_sayBy at h
  show JW X B n 0 0 0 [(0, vR 56), (1, vI (a1)), (2, vI (a2)), (3, vI (a3)), (4, vI (a4)), (5, vI (a5))] [] (E S) (QM X (QcI (gX X) B n r (E S')))
  refine j_aload_n hX 0 dX10_sayBy_0 rfl rfl ?_
  refine j_getS (k := 4) hX hfl cbX10 ty56 (by decide) rfl wd1144 rfl sb56_4 dX10_sayBy_1 ?_
  refine j_iload_n hX 1 dX10_sayBy_4 rfl rfl ?_
  obtain ⟨x1, hv, h⟩ := bs h
  refine j_iald hX hE ty59 pc59 hv dX10_sayBy_5 ?_
  refine j_iload_n hX 3 dX10_sayBy_6 rfl rfl ?_
  refine j_callSI hX mwX10_mayStand msX10_mayStand wd1512 hyX10_mayStand (by omega) (by decide) ⟨Nat.zero_le _, Nat.zero_le _⟩ dX10_sayBy_7 (s_X10_mayStand hfl rfl) npX10_mayStand rfl (Nat.le_of_ble_eq_true rfl) ?_
  refine j_if_eq hX (tgt := 27) dX10_sayBy_10 (by decide) (fun hc => ?_) (fun hc => ?_)
  · rw [if_pos hc] at h
    refine j_ldcw (z := 9999999) hX wd1491 (by decide) dX10_sayBy_27 (rc rfl) ?_
    cases h
    exact j_iret hX hR dX10_sayBy_30
  · rw [if_neg hc] at h
    refine j_aload_n hX 0 dX10_sayBy_13 rfl rfl ?_
    refine j_getS (k := 3) hX hfl cbX10 ty56 (by decide) rfl wd1143 rfl sb56_3 dX10_sayBy_14 ?_
    refine j_iload_n hX 1 dX10_sayBy_17 rfl rfl ?_
    obtain ⟨x2, hv, h⟩ := bs h
    refine j_iald hX hE ty58 pc58 hv dX10_sayBy_18 ?_
    refine j_aload_n hX 0 dX10_sayBy_19 rfl rfl ?_
    refine j_getI (k := 37) hX hE cbX10 ty56 pc56 (by decide) rfl wd1177 rfl dX10_sayBy_20 ?_
    refine j_iand hX dX10_sayBy_23 ?_
    refine j_if_eq hX (tgt := 31) dX10_sayBy_24 (by decide) (fun hc => ?_) (fun hc => ?_)
    · rw [if_pos hc] at h
      refine j_aload_n hX 0 dX10_sayBy_31 rfl rfl ?_
      refine j_getS (k := 35) hX hfl cbX10 ty56 (by decide) rfl wd1175 rfl sb56_35 dX10_sayBy_32 ?_
      refine j_iload_n hX 2 dX10_sayBy_35 rfl rfl ?_
      refine j_iconst hX dX10_sayBy_36 (rc rfl) ?_
      refine j_iadd hX dX10_sayBy_37 ?_
      refine j_aload_n hX 0 dX10_sayBy_38 rfl rfl ?_
      refine j_getS (k := 4) hX hfl cbX10 ty56 (by decide) rfl wd1144 rfl sb56_4 dX10_sayBy_39 ?_
      refine j_iload_n hX 1 dX10_sayBy_42 rfl rfl ?_
      obtain ⟨x3, hv, h⟩ := bs h
      refine j_iald hX hE ty59 pc59 hv dX10_sayBy_43 ?_
      refine j_aload_n hX 0 dX10_sayBy_44 rfl rfl ?_
      refine j_getS (k := 4) hX hfl cbX10 ty56 (by decide) rfl wd1144 rfl sb56_4 dX10_sayBy_45 ?_
      refine j_iload_n hX 1 dX10_sayBy_48 rfl rfl ?_
      obtain ⟨x4, hv, h⟩ := bs h
      refine j_iald hX hE ty59 pc59 hv dX10_sayBy_49 ?_
      refine j_iconst hX dX10_sayBy_50 (rc rfl) ?_
      refine j_icmp_ne hX (tgt := 58) dX10_sayBy_51 (by decide) (fun hc => ?_) (fun hc => ?_)
      · rw [if_neg hc] at h
        refine j_iload hX 4 dX10_sayBy_58 rfl ?_
        refine j_sub [0, 1, 2, 3, 5] rfl ?_
        exact sj_X10_sayBy_60 hX hR hfl hnl hE  h
      · rw [if_pos hc] at h
        refine j_iconst hX dX10_sayBy_54 (rc rfl) ?_
        refine j_goto hX (tgt := 60) dX10_sayBy_55 (by decide) ?_
        refine j_sub [0, 1, 2, 3, 5] rfl ?_
        exact sj_X10_sayBy_60 hX hR hfl hnl hE  h
    · rw [if_neg hc] at h
      refine j_ldcw (z := 9999999) hX wd1491 (by decide) dX10_sayBy_27 (rc rfl) ?_
      cases h
      exact j_iret hX hR dX10_sayBy_30
theorem sl_X10_leastSay_29 {X : K0} {B : Nat → Nat} {n : Nat} {E : Mem → Mem} {r : Int} {S' : Mem} (hX : Ctx X cX10_leastSay "TelegramFeelingsModel" 6) (hR : CR X (some .int)) (hfl : (gX X).2.2.2.2 = true) (hnl : X.2.2.2.2.2.2.2.2.2.2.2.2.2.2 = 8) (hE : Lens E PM)  {v1 : Int} {v2 : Int} {v3 : Int} {v4 : Int}  : ∀ (fu : Nat) (v5 : Int) (v6 : Int) (S : Mem), g_X10_leastSay_L29 v1 v2 v3 v4 fu v5 v6 S = some (r, S') → JW X B n 0 0 29 [(0, vR 56), (1, vI (v1)), (2, vI (v2)), (3, vI (v3)), (4, vI (v4)), (5, vI (v5)), (6, vI (v6))] [] (E S) (QM X (QcI (gX X) B n r (E S'))) := by
  intro fu
  induction fu with
  | zero =>
    intro v5 v6 S h
    rw [g_X10_leastSay_L29] at h
    cases h
  | succ fu ih =>
    intro v5 v6 S h
    rw [g_X10_leastSay_L29] at h
    refine j_iload hX 6 dX10_leastSay_29 rfl ?_
    refine j_aload_n hX 0 dX10_leastSay_31 rfl rfl ?_
    refine j_getI (k := 1) hX hE cbX10 ty56 pc56 (by decide) rfl wd1141 rfl dX10_leastSay_32 ?_
    refine j_icmp_ge hX (tgt := 74) dX10_leastSay_35 (by decide) (fun hc => ?_) (fun hc => ?_)
    · rw [if_pos hc] at h
      refine j_iload hX 5 dX10_leastSay_74 rfl ?_
      cases h
      exact j_iret hX hR dX10_leastSay_76
    · rw [if_neg hc] at h
      refine j_iload_n hX 1 dX10_leastSay_38 rfl rfl ?_
      refine j_bipush hX dX10_leastSay_39 (rc rfl) (by decide) ?_
      refine j_icmp_ge hX (tgt := 74) dX10_leastSay_41 (by decide) (fun hc => ?_) (fun hc => ?_)
      · rw [if_pos hc] at h
        refine j_iload hX 5 dX10_leastSay_74 rfl ?_
        cases h
        exact j_iret hX hR dX10_leastSay_76
      · rw [if_neg hc] at h
        refine j_aload_n hX 0 dX10_leastSay_44 rfl rfl ?_
        refine j_iload hX 6 dX10_leastSay_45 rfl ?_
        refine j_iload_n hX 1 dX10_leastSay_47 rfl rfl ?_
        refine j_iload_n hX 2 dX10_leastSay_48 rfl rfl ?_
        refine j_iload_n hX 3 dX10_leastSay_49 rfl rfl ?_
        refine j_iload hX 4 dX10_leastSay_50 rfl ?_
        obtain ⟨x2, S1, h1, h⟩ := bd2_s h
        refine j_callVI hX mwX10_sayBy miX10_sayBy wd1530 cbX10 ty56 hyX10_sayBy (by omega) (by decide) ⟨Nat.zero_le _, Nat.zero_le _⟩ dX10_leastSay_52 (s_X10_sayBy hfl hE h1) npX10_sayBy rfl (Nat.le_of_ble_eq_true rfl) ?_
        refine j_istore (L' := [(7, vI (x2)), (0, vR 56), (1, vI (v1)), (2, vI (v2)), (3, vI (v3)), (4, vI (v4)), (5, vI (v5)), (6, vI (v6))]) hX dX10_leastSay_55 hnl (by decide) rfl ?_
        refine j_iload hX 0 dX10_leastSay_57 rfl ?_
        refine j_iload hX 6 dX10_leastSay_59 rfl ?_
        refine j_icmp_ge hX (tgt := 68) dX10_leastSay_61 (by decide) (fun hc => ?_) (fun hc => ?_)
        · rw [if_pos hc] at h
          refine j_iinc (L' := [(6, vI (w32 (v6 + 1))), (7, vI (x2)), (0, vR 56), (1, vI (v1)), (2, vI (v2)), (3, vI (v3)), (4, vI (v4)), (5, vI (v5))]) hX 7 dX10_leastSay_68 hnl (by decide) rfl rfl ?_
          refine j_goto hX (tgt := 29) dX10_leastSay_71 (by decide) ?_
          refine j_sub [2, 3, 4, 5, 6, 7, 0] rfl ?_
          exact ih _ _ _ h
        · rw [if_neg hc] at h
          refine j_iload hX 0 dX10_leastSay_64 rfl ?_
          refine j_istore (L' := [(5, vI (x2)), (7, vI (x2)), (0, vR 56), (1, vI (v1)), (2, vI (v2)), (3, vI (v3)), (4, vI (v4)), (6, vI (v6))]) hX dX10_leastSay_66 hnl (by decide) rfl ?_
          refine j_iinc (L' := [(6, vI (w32 (v6 + 1))), (5, vI (x2)), (7, vI (x2)), (0, vR 56), (1, vI (v1)), (2, vI (v2)), (3, vI (v3)), (4, vI (v4))]) hX 7 dX10_leastSay_68 hnl (by decide) rfl rfl ?_
          refine j_goto hX (tgt := 29) dX10_leastSay_71 (by decide) ?_
          refine j_sub [3, 4, 5, 6, 7, 1, 0] rfl ?_
          exact ih _ _ _ h
theorem s_X10_leastSay {g : G0} {B : Nat → Nat} {n : Nat} {E : Mem → Mem} {a1 : Int} {a2 : Int} {a3 : Int} {a4 : Int} {S : Mem} {r : Int} {S' : Mem} (hfl : g.2.2.2.2 = true) (hE : Lens E PM) (h : g_X10_leastSay a1 a2 a3 a4 S = some (r, S')) : Cn g B n yX10_leastSay cX10_leastSay 8 (some .int) 6 [vR 56, vI (a1), vI (a2), vI (a3), vI (a4)] (E S) (QcI g B n r (E S')) := by
  refine Cn.of (by decide +kernel) (Nat.le_of_ble_eq_true rfl) (fun X hg hnl hX hR => ?_)
  subst hg
  have hX : Ctx X cX10_leastSay "TelegramFeelingsModel" 6 := hX
  unfold g_X10_leastSay at h
  show JW X B n 0 0 0 [(0, vR 56), (1, vI (a1)), (2, vI (a2)), (3, vI (a3)), (4, vI (a4))] [] (E S) (QM X (QcI (gX X) B n r (E S')))
  refine j_iload_n hX 3 dX10_leastSay_0 rfl rfl ?_
  refine j_iconst hX dX10_leastSay_1 (rc rfl) ?_
  refine j_icmp_ne hX (tgt := 21) dX10_leastSay_2 (by decide) (fun hc => ?_) (fun hc => ?_)
  · rw [if_neg hc] at h
    refine j_ldcw (z := 9999999) hX wd1491 (by decide) dX10_leastSay_21 (rc rfl) ?_
    refine j_istore (L' := [(5, vI (9999999)), (0, vR 56), (1, vI (a1)), (2, vI (a2)), (3, vI (a3)), (4, vI (a4))]) hX dX10_leastSay_24 hnl (by decide) rfl ?_
    refine j_iconst hX dX10_leastSay_26 (rc rfl) ?_
    refine j_istore (L' := [(6, vI (0)), (5, vI (9999999)), (0, vR 56), (1, vI (a1)), (2, vI (a2)), (3, vI (a3)), (4, vI (a4))]) hX dX10_leastSay_27 hnl (by decide) rfl ?_
    refine j_sub [2, 3, 4, 5, 6, 1, 0] rfl ?_
    refine sl_X10_leastSay_29 hX hR hfl hnl hE  _ _ _ _ h
  · rw [if_pos hc] at h
    refine j_iload hX 4 dX10_leastSay_5 rfl ?_
    refine j_aload_n hX 0 dX10_leastSay_7 rfl rfl ?_
    refine j_getI (k := 36) hX hE cbX10 ty56 pc56 (by decide) rfl wd1176 rfl dX10_leastSay_8 ?_
    refine j_iand hX dX10_leastSay_11 ?_
    refine j_aload_n hX 0 dX10_leastSay_12 rfl rfl ?_
    refine j_getI (k := 36) hX hE cbX10 ty56 pc56 (by decide) rfl wd1176 rfl dX10_leastSay_13 ?_
    refine j_icmp_ne hX (tgt := 21) dX10_leastSay_16 (by decide) (fun hc => ?_) (fun hc => ?_)
    · rw [if_neg hc] at h
      refine j_ldcw (z := 9999999) hX wd1491 (by decide) dX10_leastSay_21 (rc rfl) ?_
      refine j_istore (L' := [(5, vI (9999999)), (0, vR 56), (1, vI (a1)), (2, vI (a2)), (3, vI (a3)), (4, vI (a4))]) hX dX10_leastSay_24 hnl (by decide) rfl ?_
      refine j_iconst hX dX10_leastSay_26 (rc rfl) ?_
      refine j_istore (L' := [(6, vI (0)), (5, vI (9999999)), (0, vR 56), (1, vI (a1)), (2, vI (a2)), (3, vI (a3)), (4, vI (a4))]) hX dX10_leastSay_27 hnl (by decide) rfl ?_
      refine j_sub [2, 3, 4, 5, 6, 1, 0] rfl ?_
      refine sl_X10_leastSay_29 hX hR hfl hnl hE  _ _ _ _ h
    · rw [if_pos hc] at h
      refine j_iconst hX dX10_leastSay_19 (rc rfl) ?_
      cases h
      exact j_iret hX hR dX10_leastSay_20
theorem sl_X10_findSay_38 {X : K0} {B : Nat → Nat} {n : Nat} {E : Mem → Mem} {S' : Mem} (hX : Ctx X cX10_findSay "TelegramFeelingsModel" 7) (hR : CR X none) (hfl : (gX X).2.2.2.2 = true) (hnl : X.2.2.2.2.2.2.2.2.2.2.2.2.2.2 = 7) (hE : Lens E PM) {k77 : Mem → Option Mem} {v3 : Int} {v4 : Int} {v5 : Int} (K77 : ∀ (S : Mem), k77 S = some S' → JW X B n 0 0 77 [(0, vR 56), (3, vI (v3)), (4, vI (v4)), (5, vI (v5))] [] (E S) (QM X (QcV (gX X) B n (E S')))) : ∀ (fu : Nat) (v6 : Int) (S : Mem), g_X10_findSay_L38 k77 v3 v4 v5 fu v6 S = some S' → JW X B n 0 0 38 [(0, vR 56), (3, vI (v3)), (4, vI (v4)), (5, vI (v5)), (6, vI (v6))] [] (E S) (QM X (QcV (gX X) B n (E S'))) := by
  intro fu
  induction fu with
  | zero =>
    intro v6 S h
    rw [g_X10_findSay_L38] at h
    cases h
  | succ fu ih =>
    intro v6 S h
    rw [g_X10_findSay_L38] at h
    refine j_iload hX 4 dX10_findSay_38 rfl ?_
    refine j_bipush hX dX10_findSay_40 (rc rfl) (by decide) ?_
    refine j_icmp_ge hX (tgt := 77) dX10_findSay_42 (by decide) (fun hc => ?_) (fun hc => ?_)
    · rw [if_pos hc] at h
      refine j_sub [0, 1, 2, 3] rfl ?_
      exact K77 _ h
    · rw [if_neg hc] at h
      refine j_aload_n hX 0 dX10_findSay_45 rfl rfl ?_
      refine j_getS (k := 35) hX hfl cbX10 ty56 (by decide) rfl wd1175 rfl sb56_35 dX10_findSay_46 ?_
      refine j_iload_n hX 1 dX10_findSay_49 rfl rfl ?_
      refine j_iload hX 2 dX10_findSay_50 rfl ?_
      refine j_iload hX 3 dX10_findSay_52 rfl ?_
      refine j_iload hX 4 dX10_findSay_54 rfl ?_
      refine j_callSI hX mwX10_sayAt msX10_sayAt wd1523 hyX10_sayAt (by omega) (by decide) ⟨Nat.zero_le _, Nat.zero_le _⟩ dX10_findSay_56 (s_X10_sayAt hfl rfl) npX10_sayAt rfl (Nat.le_of_ble_eq_true rfl) ?_
      refine j_aload_n hX 0 dX10_findSay_59 rfl rfl ?_
      refine j_iload_n hX 1 dX10_findSay_60 rfl rfl ?_
      refine j_iload hX 2 dX10_findSay_61 rfl ?_
      refine j_iload hX 3 dX10_findSay_63 rfl ?_
      refine j_iload hX 4 dX10_findSay_65 rfl ?_
      obtain ⟨x4, S3, h1, h⟩ := bd2_s h
      refine j_callVI hX mwX10_leastSay miX10_leastSay wd1526 cbX10 ty56 hyX10_leastSay (by omega) (by decide) ⟨Nat.zero_le _, Nat.zero_le _⟩ dX10_findSay_67 (s_X10_leastSay hfl hE h1) npX10_leastSay rfl (Nat.le_of_ble_eq_true rfl) ?_
      obtain ⟨S5, hv, h⟩ := bs h
      refine j_iast hX hE ty80 pc80 hv dX10_findSay_70 ?_
      refine j_iinc (L' := [(6, vI (w32 (v6 + 1))), (0, vR 56), (3, vI (v3)), (4, vI (v4)), (5, vI (v5))]) hX 4 dX10_findSay_71 hnl (by decide) rfl rfl ?_
      refine j_goto hX (tgt := 38) dX10_findSay_74 (by decide) ?_
      refine j_sub [1, 2, 3, 4, 0] rfl ?_
      exact ih _ _ h
theorem sl_X10_findSay_29 {X : K0} {B : Nat → Nat} {n : Nat} {E : Mem → Mem} {S' : Mem} (hX : Ctx X cX10_findSay "TelegramFeelingsModel" 7) (hR : CR X none) (hfl : (gX X).2.2.2.2 = true) (hnl : X.2.2.2.2.2.2.2.2.2.2.2.2.2.2 = 7) (hE : Lens E PM) {k83 : Mem → Option Mem} {v3 : Int} {v4 : Int} (K83 : ∀ (S : Mem), k83 S = some S' → JW X B n 0 0 83 [(0, vR 56), (3, vI (v3)), (4, vI (v4))] [] (E S) (QM X (QcV (gX X) B n (E S')))) : ∀ (fu : Nat) (v5 : Int) (S : Mem), g_X10_findSay_L29 k83 v3 v4 fu v5 S = some S' → JW X B n 0 0 29 [(0, vR 56), (3, vI (v3)), (4, vI (v4)), (5, vI (v5))] [] (E S) (QM X (QcV (gX X) B n (E S'))) := by
  intro fu
  induction fu with
  | zero =>
    intro v5 S h
    rw [g_X10_findSay_L29] at h
    cases h
  | succ fu ih =>
    intro v5 S h
    rw [g_X10_findSay_L29] at h
    refine j_iload hX 3 dX10_findSay_29 rfl ?_
    refine j_iconst hX dX10_findSay_31 (rc rfl) ?_
    refine j_icmp_ge hX (tgt := 83) dX10_findSay_32 (by decide) (fun hc => ?_) (fun hc => ?_)
    · rw [if_pos hc] at h
      refine j_sub [0, 1, 2] rfl ?_
      exact K83 _ h
    · rw [if_neg hc] at h
      refine j_iconst hX dX10_findSay_35 (rc rfl) ?_
      refine j_istore (L' := [(6, vI (0)), (0, vR 56), (3, vI (v3)), (4, vI (v4)), (5, vI (v5))]) hX dX10_findSay_36 hnl (by decide) rfl ?_
      refine j_sub [1, 2, 3, 4, 0] rfl ?_
      refine sl_X10_findSay_38 hX hR hfl hnl hE (fun S6 h => ?_) _ _ _ h
      refine j_iinc (L' := [(5, vI (w32 (v5 + 1))), (0, vR 56), (3, vI (v3)), (4, vI (v4))]) hX 3 dX10_findSay_77 hnl (by decide) rfl rfl ?_
      refine j_goto hX (tgt := 29) dX10_findSay_80 (by decide) ?_
      refine j_sub [1, 2, 3, 0] rfl ?_
      exact ih _ _ h
theorem sl_X10_findSay_20 {X : K0} {B : Nat → Nat} {n : Nat} {E : Mem → Mem} {S' : Mem} (hX : Ctx X cX10_findSay "TelegramFeelingsModel" 7) (hR : CR X none) (hfl : (gX X).2.2.2.2 = true) (hnl : X.2.2.2.2.2.2.2.2.2.2.2.2.2.2 = 7) (hE : Lens E PM) {k89 : Mem → Option Mem} {v3 : Int} (K89 : ∀ (S : Mem), k89 S = some S' → JW X B n 0 0 89 [(0, vR 56), (3, vI (v3))] [] (E S) (QM X (QcV (gX X) B n (E S')))) : ∀ (fu : Nat) (v4 : Int) (S : Mem), g_X10_findSay_L20 k89 v3 fu v4 S = some S' → JW X B n 0 0 20 [(0, vR 56), (3, vI (v3)), (4, vI (v4))] [] (E S) (QM X (QcV (gX X) B n (E S'))) := by
  intro fu
  induction fu with
  | zero =>
    intro v4 S h
    rw [g_X10_findSay_L20] at h
    cases h
  | succ fu ih =>
    intro v4 S h
    rw [g_X10_findSay_L20] at h
    refine j_iload hX 2 dX10_findSay_20 rfl ?_
    refine j_iconst hX dX10_findSay_22 (rc rfl) ?_
    refine j_icmp_ge hX (tgt := 89) dX10_findSay_23 (by decide) (fun hc => ?_) (fun hc => ?_)
    · rw [if_pos hc] at h
      refine j_sub [0, 1] rfl ?_
      exact K89 _ h
    · rw [if_neg hc] at h
      refine j_iconst hX dX10_findSay_26 (rc rfl) ?_
      refine j_istore (L' := [(5, vI (0)), (0, vR 56), (3, vI (v3)), (4, vI (v4))]) hX dX10_findSay_27 hnl (by decide) rfl ?_
      refine j_sub [1, 2, 3, 0] rfl ?_
      refine sl_X10_findSay_29 hX hR hfl hnl hE (fun S7 h => ?_) _ _ _ h
      refine j_iinc (L' := [(4, vI (w32 (v4 + 1))), (0, vR 56), (3, vI (v3))]) hX 2 dX10_findSay_83 hnl (by decide) rfl rfl ?_
      refine j_goto hX (tgt := 20) dX10_findSay_86 (by decide) ?_
      refine j_sub [1, 2, 0] rfl ?_
      exact ih _ _ h
theorem sl_X10_findSay_13 {X : K0} {B : Nat → Nat} {n : Nat} {E : Mem → Mem} {S' : Mem} (hX : Ctx X cX10_findSay "TelegramFeelingsModel" 7) (hR : CR X none) (hfl : (gX X).2.2.2.2 = true) (hnl : X.2.2.2.2.2.2.2.2.2.2.2.2.2.2 = 7) (hE : Lens E PM)    : ∀ (fu : Nat) (v3 : Int) (S : Mem), g_X10_findSay_L13 fu v3 S = some S' → JW X B n 0 0 13 [(0, vR 56), (3, vI (v3))] [] (E S) (QM X (QcV (gX X) B n (E S'))) := by
  intro fu
  induction fu with
  | zero =>
    intro v3 S h
    rw [g_X10_findSay_L13] at h
    cases h
  | succ fu ih =>
    intro v3 S h
    rw [g_X10_findSay_L13] at h
    refine j_iload_n hX 1 dX10_findSay_13 rfl rfl ?_
    refine j_if_lt hX (tgt := 95) dX10_findSay_14 (by decide) (fun hc => ?_) (fun hc => ?_)
    · rw [if_pos hc] at h
      cases h
      exact j_vret hX hR dX10_findSay_95
    · rw [if_neg hc] at h
      refine j_iconst hX dX10_findSay_17 (rc rfl) ?_
      refine j_istore (L' := [(4, vI (0)), (0, vR 56), (3, vI (v3))]) hX dX10_findSay_18 hnl (by decide) rfl ?_
      refine j_sub [1, 2, 0] rfl ?_
      refine sl_X10_findSay_20 hX hR hfl hnl hE (fun S8 h => ?_) _ _ _ h
      refine j_iinc (L' := [(3, vI (w32 (v3 + (-1)))), (0, vR 56)]) hX 1 dX10_findSay_89 hnl (by decide) rfl rfl ?_
      refine j_goto hX (tgt := 13) dX10_findSay_92 (by decide) ?_
      refine j_sub [1, 0] rfl ?_
      exact ih _ _ h
theorem s_X10_findSay {g : G0} {B : Nat → Nat} {n : Nat} {E : Mem → Mem} {a1 : Int} {a2 : Int} {S : Mem} {S' : Mem} (hfl : g.2.2.2.2 = true) (hE : Lens E PM) (h : g_X10_findSay a1 a2 S = some S') : Cn g B n yX10_findSay cX10_findSay 7 none 7 [vR 56, vI (a1), vI (a2)] (E S) (QcV g B n (E S')) := by
  refine Cn.of (by decide +kernel) (Nat.le_of_ble_eq_true rfl) (fun X hg hnl hX hR => ?_)
  subst hg
  have hX : Ctx X cX10_findSay "TelegramFeelingsModel" 7 := hX
  unfold g_X10_findSay at h
  show JW X B n 0 0 0 [(0, vR 56), (1, vI (a1)), (2, vI (a2))] [] (E S) (QM X (QcV (gX X) B n (E S')))
  refine j_aload_n hX 0 dX10_findSay_0 rfl rfl ?_
  refine j_iload_n hX 1 dX10_findSay_1 rfl rfl ?_
  refine j_putI (k := 36) hX hE cbX10 ty56 pc56 (by decide) rfl wd1176 rfl (Or.inl rfl) rfl dX10_findSay_2 ?_
  obtain ⟨S1, hx, h⟩ := ap_s h
  rw [← hx]
  clear hx
  refine j_aload_n hX 0 dX10_findSay_5 rfl rfl ?_
  refine j_iload_n hX 2 dX10_findSay_6 rfl rfl ?_
  refine j_putI (k := 37) hX hE cbX10 ty56 pc56 (by decide) rfl wd1177 rfl (Or.inl rfl) rfl dX10_findSay_7 ?_
  obtain ⟨S2, hx, h⟩ := ap_s h
  rw [← hx]
  clear hx
  refine j_bipush hX dX10_findSay_10 (rc rfl) (by decide) ?_
  refine j_istore_n (L' := [(3, vI (6)), (0, vR 56), (1, vI (a1)), (2, vI (a2))]) hX dX10_findSay_12 rfl hnl (by decide) rfl ?_
  refine j_sub [1, 0] rfl ?_
  refine sl_X10_findSay_13 hX hR hfl hnl hE  _ _ _ h
theorem sl_X10_say_104 {X : K0} {B : Nat → Nat} {n : Nat} {E : Mem → Mem} {r : Int} {S' : Mem} (hX : Ctx X cX10_say "TelegramFeelingsModel" 8) (hR : CR X (some .int)) (hfl : (gX X).2.2.2.2 = true) (hnl : X.2.2.2.2.2.2.2.2.2.2.2.2.2.2 = 9) (hE : Lens E PM) {k143 : Int → Mem → Option (Int × Mem)} {v2 : Int} {v4 : Int} {v5 : Int} {v6 : Int} {v7 : Int} (K143 : ∀ (v8 : Int) (S : Mem), k143 v8 S = some (r, S') → JW X B n 0 0 143 [(0, vR 56), (2, vI (v2)), (5, vI (v5)), (6, vI (v6)), (7, vI (v7)), (8, vI (v8))] [] (E S) (QM X (QcI (gX X) B n r (E S')))) : ∀ (fu : Nat) (v8 : Int) (S : Mem), g_X10_say_L104 k143 v2 v4 v5 v6 v7 fu v8 S = some (r, S') → JW X B n 0 0 104 [(0, vR 56), (2, vI (v2)), (4, vI (v4)), (5, vI (v5)), (6, vI (v6)), (7, vI (v7)), (8, vI (v8))] [] (E S) (QM X (QcI (gX X) B n r (E S'))) := by
  intro fu
  induction fu with
  | zero =>
    intro v8 S h
    rw [g_X10_say_L104] at h
    cases h
  | succ fu ih =>
    intro v8 S h
    rw [g_X10_say_L104] at h
    refine j_aload_n hX 0 dX10_say_104 rfl rfl ?_
    refine j_iload hX 6 dX10_say_105 rfl ?_
    refine j_iload hX 5 dX10_say_107 rfl ?_
    refine j_iload hX 2 dX10_say_109 rfl ?_
    refine j_iload hX 3 dX10_say_111 rfl ?_
    refine j_iload hX 4 dX10_say_113 rfl ?_
    obtain ⟨x4, S3, h1, h⟩ := bd2_s h
    refine j_callVI hX mwX10_sayBy miX10_sayBy wd1530 cbX10 ty56 hyX10_sayBy (by omega) (by decide) ⟨Nat.zero_le _, Nat.zero_le _⟩ dX10_say_115 (s_X10_sayBy hfl hE h1) npX10_sayBy rfl (Nat.le_of_ble_eq_true rfl) ?_
    refine j_aload_n hX 0 dX10_say_118 rfl rfl ?_
    refine j_getS (k := 35) hX hfl cbX10 ty56 (by decide) rfl wd1175 rfl sb56_35 dX10_say_119 ?_
    refine j_iload hX 5 dX10_say_122 rfl ?_
    refine j_iload hX 2 dX10_say_124 rfl ?_
    refine j_iload hX 3 dX10_say_126 rfl ?_
    refine j_iload hX 4 dX10_say_128 rfl ?_
    refine j_callSI hX mwX10_sayAt msX10_sayAt wd1523 hyX10_sayAt (by omega) (by decide) ⟨Nat.zero_le _, Nat.zero_le _⟩ dX10_say_130 (s_X10_sayAt hfl rfl) npX10_sayAt rfl (Nat.le_of_ble_eq_true rfl) ?_
    obtain ⟨x5, hv, h⟩ := bs h
    refine j_iald hX hE ty80 pc80 hv dX10_say_133 ?_
    refine j_icmp_eq hX (tgt := 143) dX10_say_134 (by decide) (fun hc => ?_) (fun hc => ?_)
    · rw [if_pos hc] at h
      refine j_sub [0, 1, 3, 4, 5, 6] rfl ?_
      exact K143 _ _ h
    · rw [if_neg hc] at h
      refine j_iinc (L' := [(8, vI (w32 (v8 + 1))), (0, vR 56), (2, vI (v2)), (4, vI (v4)), (5, vI (v5)), (6, vI (v6)), (7, vI (v7))]) hX 6 dX10_say_137 hnl (by decide) rfl rfl ?_
      refine j_goto hX (tgt := 104) dX10_say_140 (by decide) ?_
      refine j_sub [1, 2, 3, 4, 5, 6, 0] rfl ?_
      exact ih _ _ h
theorem sl_X10_say_95 {X : K0} {B : Nat → Nat} {n : Nat} {E : Mem → Mem} {r : Int} {S' : Mem} (hX : Ctx X cX10_say "TelegramFeelingsModel" 8) (hR : CR X (some .int)) (hfl : (gX X).2.2.2.2 = true) (hnl : X.2.2.2.2.2.2.2.2.2.2.2.2.2.2 = 9) (hE : Lens E PM)  {v2 : Int}  : ∀ (fu : Nat) (v4 : Int) (v5 : Int) (v6 : Int) (v7 : Int) (S : Mem), g_X10_say_L95 v2 fu v4 v5 v6 v7 S = some (r, S') → JW X B n 0 0 95 [(0, vR 56), (2, vI (v2)), (4, vI (v4)), (5, vI (v5)), (6, vI (v6)), (7, vI (v7))] [] (E S) (QM X (QcI (gX X) B n r (E S'))) := by
  intro fu
  induction fu with
  | zero =>
    intro v4 v5 v6 v7 S h
    rw [g_X10_say_L95] at h
    cases h
  | succ fu ih =>
    intro v4 v5 v6 v7 S h
    rw [g_X10_say_L95] at h
    refine j_iload hX 5 dX10_say_95 rfl ?_
    refine j_iload_n hX 1 dX10_say_97 rfl rfl ?_
    refine j_icmp_gt hX (tgt := 188) dX10_say_98 (by decide) (fun hc => ?_) (fun hc => ?_)
    · rw [if_pos hc] at h
      refine j_bipush hX dX10_say_188 (rc rfl) (by decide) ?_
      cases h
      exact j_iret hX hR dX10_say_190
    · rw [if_neg hc] at h
      refine j_iconst hX dX10_say_101 (rc rfl) ?_
      refine j_istore (L' := [(8, vI (0)), (0, vR 56), (2, vI (v2)), (4, vI (v4)), (5, vI (v5)), (6, vI (v6)), (7, vI (v7))]) hX dX10_say_102 hnl (by decide) rfl ?_
      refine j_sub [1, 2, 3, 4, 5, 6, 0] rfl ?_
      refine sl_X10_say_104 hX hR hfl hnl hE (fun y7 S6 h => ?_) _ _ _ h
      refine j_iload hX 4 dX10_say_143 rfl ?_
      refine j_iload_n hX 1 dX10_say_145 rfl rfl ?_
      refine j_icmp_ne hX (tgt := 152) dX10_say_146 (by decide) (fun hc => ?_) (fun hc => ?_)
      · rw [if_neg hc] at h
        refine j_aload_n hX 0 dX10_say_152 rfl rfl ?_
        refine j_getS (k := 4) hX hfl cbX10 ty56 (by decide) rfl wd1144 rfl sb56_4 dX10_say_153 ?_
        refine j_iload hX 5 dX10_say_156 rfl ?_
        obtain ⟨x8, hv, h⟩ := bs h
        refine j_iald hX hE ty59 pc59 hv dX10_say_158 ?_
        refine j_istore (L' := [(4, vI (x8)), (0, vR 56), (2, vI (v2)), (5, vI (v5)), (6, vI (v6)), (7, vI (v7)), (8, vI (y7))]) hX dX10_say_159 hnl (by decide) rfl ?_
        refine j_iload hX 0 dX10_say_161 rfl ?_
        refine j_iconst hX dX10_say_163 (rc rfl) ?_
        refine j_icmp_ne hX (tgt := 170) dX10_say_164 (by decide) (fun hc => ?_) (fun hc => ?_)
        · rw [if_neg hc] at h
          refine j_iload hX 4 dX10_say_170 rfl ?_
          refine j_aload_n hX 1 dX10_say_172 rfl rfl ?_
          refine j_getS (k := 3) hX hfl cbX10 ty56 (by decide) rfl wd1143 rfl sb56_3 dX10_say_173 ?_
          refine j_iload hX 6 dX10_say_176 rfl ?_
          obtain ⟨x9, hv, h⟩ := bs h
          refine j_iald hX hE ty58 pc58 hv dX10_say_178 ?_
          refine j_ior hX dX10_say_179 ?_
          refine j_istore (L' := [(6, vI (o_or v6 x9)), (4, vI (x8)), (0, vR 56), (2, vI (v2)), (5, vI (v5)), (7, vI (v7)), (8, vI (y7))]) hX dX10_say_180 hnl (by decide) rfl ?_
          refine j_iinc (L' := [(7, vI (w32 (v7 + 1))), (6, vI (o_or v6 x9)), (4, vI (x8)), (0, vR 56), (2, vI (v2)), (5, vI (v5)), (8, vI (y7))]) hX 5 dX10_say_182 hnl (by decide) rfl rfl ?_
          refine j_goto hX (tgt := 95) dX10_say_185 (by decide) ?_
          refine j_sub [3, 4, 2, 5, 1, 0] rfl ?_
          exact ih _ _ _ _ _ h
        · rw [if_pos hc] at h
          refine j_iconst hX dX10_say_167 (rc rfl) ?_
          refine j_istore (L' := [(5, vI (1)), (4, vI (x8)), (0, vR 56), (2, vI (v2)), (6, vI (v6)), (7, vI (v7)), (8, vI (y7))]) hX dX10_say_168 hnl (by decide) rfl ?_
          refine j_iload hX 4 dX10_say_170 rfl ?_
          refine j_aload_n hX 2 dX10_say_172 rfl rfl ?_
          refine j_getS (k := 3) hX hfl cbX10 ty56 (by decide) rfl wd1143 rfl sb56_3 dX10_say_173 ?_
          refine j_iload hX 6 dX10_say_176 rfl ?_
          obtain ⟨x10, hv, h⟩ := bs h
          refine j_iald hX hE ty58 pc58 hv dX10_say_178 ?_
          refine j_ior hX dX10_say_179 ?_
          refine j_istore (L' := [(6, vI (o_or v6 x10)), (5, vI (1)), (4, vI (x8)), (0, vR 56), (2, vI (v2)), (7, vI (v7)), (8, vI (y7))]) hX dX10_say_180 hnl (by decide) rfl ?_
          refine j_iinc (L' := [(7, vI (w32 (v7 + 1))), (6, vI (o_or v6 x10)), (5, vI (1)), (4, vI (x8)), (0, vR 56), (2, vI (v2)), (8, vI (y7))]) hX 5 dX10_say_182 hnl (by decide) rfl rfl ?_
          refine j_goto hX (tgt := 95) dX10_say_185 (by decide) ?_
          refine j_sub [4, 5, 3, 2, 1, 0] rfl ?_
          exact ih _ _ _ _ _ h
      · rw [if_pos hc] at h
        refine j_iload hX 5 dX10_say_149 rfl ?_
        cases h
        exact j_iret hX hR dX10_say_151
theorem s_X10_say {g : G0} {B : Nat → Nat} {n : Nat} {E : Mem → Mem} {a1 : Int} {a2 : Int} {S : Mem} {r : Int} {S' : Mem} (hfl : g.2.2.2.2 = true) (hE : Lens E PM) (h : g_X10_say a1 a2 S = some (r, S')) : Cn g B n yX10_say cX10_say 9 (some .int) 8 [vR 56, vI (a1), vI (a2)] (E S) (QcI g B n r (E S')) := by
  refine Cn.of (by decide +kernel) (Nat.le_of_ble_eq_true rfl) (fun X hg hnl hX hR => ?_)
  subst hg
  have hX : Ctx X cX10_say "TelegramFeelingsModel" 8 := hX
  unfold g_X10_say at h
  show JW X B n 0 0 0 [(0, vR 56), (1, vI (a1)), (2, vI (a2))] [] (E S) (QM X (QcI (gX X) B n r (E S')))
  refine j_iload_n hX 1 dX10_say_0 rfl rfl ?_
  refine j_iconst hX dX10_say_1 (rc rfl) ?_
  refine j_sipush hX dX10_say_2 (rc rfl) (by decide) ?_
  refine j_callSI hX mwX10_in msX10_in wd1326 hyX10_in (by omega) (by decide) ⟨Nat.zero_le _, Nat.zero_le _⟩ dX10_say_5 (s_X10_in hfl rfl) npX10_in rfl (Nat.le_of_ble_eq_true rfl) ?_
  refine j_if_eq hX (tgt := 17) dX10_say_8 (by decide) (fun hc => ?_) (fun hc => ?_)
  · rw [if_pos hc] at h
    refine j_iconst hX dX10_say_17 (rc rfl) ?_
    cases h
    exact j_iret hX hR dX10_say_18
  · rw [if_neg hc] at h
    refine j_iload_n hX 2 dX10_say_11 rfl rfl ?_
    refine j_bipush hX dX10_say_12 (rc rfl) (by decide) ?_
    refine j_icmp_ge hX (tgt := 19) dX10_say_14 (by decide) (fun hc => ?_) (fun hc => ?_)
    · rw [if_pos hc] at h
      refine j_aload_n hX 0 dX10_say_19 rfl rfl ?_
      refine j_iload_n hX 1 dX10_say_20 rfl rfl ?_
      refine j_bipush hX dX10_say_21 (rc rfl) (by decide) ?_
      refine j_idiv hX dX10_say_23 (by decide) ?_
      refine j_iload_n hX 1 dX10_say_24 rfl rfl ?_
      refine j_bipush hX dX10_say_25 (rc rfl) (by decide) ?_
      refine j_irem hX dX10_say_27 (by decide) ?_
      obtain ⟨S1, h1, h⟩ := bs h
      refine j_callVV hX mwX10_findSay miX10_findSay wd1519 cbX10 ty56 hyX10_findSay (by omega) (by decide) ⟨Nat.zero_le _, Nat.zero_le _⟩ dX10_say_28 (s_X10_findSay hfl hE h1) npX10_findSay rfl (Nat.le_of_ble_eq_true rfl) ?_
      refine j_aload_n hX 0 dX10_say_31 rfl rfl ?_
      refine j_getS (k := 35) hX hfl cbX10 ty56 (by decide) rfl wd1175 rfl sb56_35 dX10_say_32 ?_
      refine j_iconst hX dX10_say_35 (rc rfl) ?_
      refine j_iconst hX dX10_say_36 (rc rfl) ?_
      refine j_iconst hX dX10_say_37 (rc rfl) ?_
      refine j_iconst hX dX10_say_38 (rc rfl) ?_
      refine j_callSI hX mwX10_sayAt msX10_sayAt wd1523 hyX10_sayAt (by omega) (by decide) ⟨Nat.zero_le _, Nat.zero_le _⟩ dX10_say_39 (s_X10_sayAt hfl rfl) npX10_sayAt rfl (Nat.le_of_ble_eq_true rfl) ?_
      obtain ⟨x2, hv, h⟩ := bs h
      refine j_iald hX hE ty80 pc80 hv dX10_say_42 ?_
      refine j_istore_n (L' := [(3, vI (x2)), (0, vR 56), (1, vI (a1)), (2, vI (a2))]) hX dX10_say_43 rfl hnl (by decide) rfl ?_
      refine j_iload_n hX 0 dX10_say_44 rfl rfl ?_
      refine j_ldcw (z := 9999999) hX wd1491 (by decide) dX10_say_45 (rc rfl) ?_
      refine j_icmp_ge hX (tgt := 59) dX10_say_48 (by decide) (fun hc => ?_) (fun hc => ?_)
      · rw [if_pos hc] at h
        refine j_bipush hX dX10_say_59 (rc rfl) (by decide) ?_
        cases h
        exact j_iret hX hR dX10_say_61
      · rw [if_neg hc] at h
        refine j_iload_n hX 3 dX10_say_51 rfl rfl ?_
        refine j_iload_n hX 0 dX10_say_52 rfl rfl ?_
        refine j_bipush hX dX10_say_53 (rc rfl) (by decide) ?_
        refine j_irem hX dX10_say_55 (by decide) ?_
        refine j_icmp_lt hX (tgt := 62) dX10_say_56 (by decide) (fun hc => ?_) (fun hc => ?_)
        · rw [if_pos hc] at h
          refine j_iload_n hX 3 dX10_say_62 rfl rfl ?_
          refine j_iconst hX dX10_say_63 (rc rfl) ?_
          refine j_icmp_ne hX (tgt := 72) dX10_say_64 (by decide) (fun hc => ?_) (fun hc => ?_)
          · rw [if_neg hc] at h
            refine j_iload_n hX 3 dX10_say_72 rfl rfl ?_
            refine j_bipush hX dX10_say_73 (rc rfl) (by decide) ?_
            refine j_icmp_ne hX (tgt := 83) dX10_say_75 (by decide) (fun hc => ?_) (fun hc => ?_)
            · rw [if_neg hc] at h
              refine j_iconst hX dX10_say_83 (rc rfl) ?_
              refine j_istore (L' := [(4, vI (3)), (3, vI (x2)), (0, vR 56), (1, vI (a1)), (2, vI (a2))]) hX dX10_say_84 hnl (by decide) rfl ?_
              refine j_iconst hX dX10_say_86 (rc rfl) ?_
              refine j_istore (L' := [(5, vI (0)), (4, vI (3)), (3, vI (x2)), (0, vR 56), (1, vI (a1)), (2, vI (a2))]) hX dX10_say_87 hnl (by decide) rfl ?_
              refine j_iconst hX dX10_say_89 (rc rfl) ?_
              refine j_istore (L' := [(6, vI (0)), (5, vI (0)), (4, vI (3)), (3, vI (x2)), (0, vR 56), (1, vI (a1)), (2, vI (a2))]) hX dX10_say_90 hnl (by decide) rfl ?_
              refine j_iconst hX dX10_say_92 (rc rfl) ?_
              refine j_istore (L' := [(7, vI (0)), (6, vI (0)), (5, vI (0)), (4, vI (3)), (3, vI (x2)), (0, vR 56), (1, vI (a1)), (2, vI (a2))]) hX dX10_say_93 hnl (by decide) rfl ?_
              refine j_sub [5, 7, 3, 2, 1, 0] rfl ?_
              refine sl_X10_say_95 hX hR hfl hnl hE  _ _ _ _ _ _ h
            · rw [if_pos hc] at h
              refine j_iload_n hX 0 dX10_say_78 rfl rfl ?_
              refine j_bipush hX dX10_say_79 (rc rfl) (by decide) ?_
              refine j_irem hX dX10_say_81 (by decide) ?_
              cases h
              exact j_iret hX hR dX10_say_82
          · rw [if_pos hc] at h
            refine j_iload_n hX 0 dX10_say_67 rfl rfl ?_
            refine j_bipush hX dX10_say_68 (rc rfl) (by decide) ?_
            refine j_idiv hX dX10_say_70 (by decide) ?_
            cases h
            exact j_iret hX hR dX10_say_71
        · rw [if_neg hc] at h
          refine j_bipush hX dX10_say_59 (rc rfl) (by decide) ?_
          cases h
          exact j_iret hX hR dX10_say_61
    · rw [if_neg hc] at h
      refine j_iconst hX dX10_say_17 (rc rfl) ?_
      cases h
      exact j_iret hX hR dX10_say_18
theorem s_X10_nowAt {g : G0} {B : Nat → Nat} {n : Nat} {M : Mem} {a1 : Int} {a2 : Int} {a3 : Int} {r : Int} (hfl : g.2.2.2.2 = true) (h : g_X10_nowAt a1 a2 a3 = r) : Cn g B n yX10_nowAt cX10_nowAt 3 (some .int) 1 [vI (a1), vI (a2), vI (a3)] M (QcI g B n r M) := by
  refine Cn.of (by decide +kernel) (Nat.le_of_ble_eq_true rfl) (fun X hg hnl hX hR => ?_)
  subst hg
  have hX : Ctx X cX10_nowAt "TelegramFeelingsModel" 1 := hX
  unfold g_X10_nowAt at h
  show JW X B n 0 0 0 [(0, vI (a1)), (1, vI (a2)), (2, vI (a3))] [] (M) (QM X (QcI (gX X) B n r M))
  refine j_iload_n hX 0 dX10_nowAt_0 rfl rfl ?_
  refine j_iconst hX dX10_nowAt_1 (rc rfl) ?_
  refine j_imul hX dX10_nowAt_2 ?_
  refine j_iload_n hX 1 dX10_nowAt_3 rfl rfl ?_
  refine j_iadd hX dX10_nowAt_4 ?_
  refine j_bipush hX dX10_nowAt_5 (rc rfl) (by decide) ?_
  refine j_imul hX dX10_nowAt_7 ?_
  refine j_iload_n hX 2 dX10_nowAt_8 rfl rfl ?_
  refine j_iadd hX dX10_nowAt_9 ?_
  subst h
  exact j_iret hX hR dX10_nowAt_10
theorem sj_X10_goFrom_52 {X : K0} {B : Nat → Nat} {n : Nat} {E : Mem → Mem} {S' : Mem} (hX : Ctx X cX10_goFrom "TelegramFeelingsModel" 5) (hR : CR X none) (hfl : (gX X).2.2.2.2 = true) (hnl : X.2.2.2.2.2.2.2.2.2.2.2.2.2.2 = 8) (hE : Lens E PM) {c : Int → Mem → Option Mem}   {v1 : Int} {v2 : Int} {v3 : Int} {v4 : Int} {v5 : Int} {s0 : Int} {s1 : Int} {S : Mem} (Hc : ∀ (v5 : Int) (S : Mem), c v5 S = some S' → JW X B n 0 0 3 [(0, vR 56), (1, vI (v1)), (2, vI (v2)), (3, vI (v3)), (4, vI (v4)), (5, vI (v5))] [] (E S) (QM X (QcV (gX X) B n (E S')))) (h : g_X10_goFrom_J52 c v1 v2 v3 v4 v5 s0 s1 S = some S') : JW X B n 0 0 52 [(0, vR 56), (1, vI (v1)), (2, vI (v2)), (3, vI (v3)), (4, vI (v4)), (5, vI (v5))] [vI (s1), vI (s0)] (E S) (QM X (QcV (gX X) B n (E S'))) := by
  unfold g_X10_goFrom_J52 at h
  refine j_iload hX 4 dX10_goFrom_52 rfl ?_
  refine j_aload_n hX 0 dX10_goFrom_54 rfl rfl ?_
  refine j_getS (k := 3) hX hfl cbX10 ty56 (by decide) rfl wd1143 rfl sb56_3 dX10_goFrom_55 ?_
  refine j_iload hX 5 dX10_goFrom_58 rfl ?_
  obtain ⟨x4, hv, h⟩ := bs h
  refine j_iald hX hE ty58 pc58 hv dX10_goFrom_60 ?_
  refine j_ior hX dX10_goFrom_61 ?_
  refine j_callSI hX mwX10_nowAt msX10_nowAt wd1542 hyX10_nowAt (by omega) (by decide) ⟨Nat.zero_le _, Nat.zero_le _⟩ dX10_goFrom_62 (s_X10_nowAt hfl rfl) npX10_nowAt rfl (Nat.le_of_ble_eq_true rfl) ?_
  obtain ⟨x5, hx, h⟩ := ap_s h
  rw [← hx]
  clear hx
  refine j_istore (L' := [(6, vI (x5)), (0, vR 56), (1, vI (v1)), (2, vI (v2)), (3, vI (v3)), (4, vI (v4)), (5, vI (v5))]) hX dX10_goFrom_65 hnl (by decide) rfl ?_
  refine j_aload_n hX 1 dX10_goFrom_67 rfl rfl ?_
  refine j_getS (k := 38) hX hfl cbX10 ty56 (by decide) rfl wd1178 rfl sb56_38 dX10_goFrom_68 ?_
  refine j_iload_n hX 3 dX10_goFrom_71 rfl rfl ?_
  refine j_iload_n hX 4 dX10_goFrom_72 rfl rfl ?_
  refine j_iload hX 5 dX10_goFrom_73 rfl ?_
  refine j_callSI hX mwX10_nowAt msX10_nowAt wd1542 hyX10_nowAt (by omega) (by decide) ⟨Nat.zero_le _, Nat.zero_le _⟩ dX10_goFrom_75 (s_X10_nowAt hfl rfl) npX10_nowAt rfl (Nat.le_of_ble_eq_true rfl) ?_
  obtain ⟨x6, hv, h⟩ := bs h
  refine j_iald hX hE ty81 pc81 hv dX10_goFrom_78 ?_
  refine j_aload_n hX 1 dX10_goFrom_79 rfl rfl ?_
  refine j_iload hX 6 dX10_goFrom_80 rfl ?_
  refine j_iload_n hX 3 dX10_goFrom_82 rfl rfl ?_
  refine j_iload_n hX 2 dX10_goFrom_83 rfl rfl ?_
  obtain ⟨x8, S7, h1, h⟩ := bd2_s h
  refine j_callVI hX mwX10_priceIn miX10_priceIn wd1456 cbX10 ty56 hyX10_priceIn (by omega) (by decide) ⟨Nat.zero_le _, Nat.zero_le _⟩ dX10_goFrom_84 (s_X10_priceIn hfl hE h1) npX10_priceIn rfl (Nat.le_of_ble_eq_true rfl) ?_
  refine j_iadd hX dX10_goFrom_87 ?_
  refine j_istore (L' := [(7, vI (w32 (x6 + x8))), (6, vI (x5)), (0, vR 56), (1, vI (v1)), (2, vI (v2)), (3, vI (v3)), (4, vI (v4)), (5, vI (v5))]) hX dX10_goFrom_88 hnl (by decide) rfl ?_
  refine j_iload hX 0 dX10_goFrom_90 rfl ?_
  refine j_aload_n hX 2 dX10_goFrom_92 rfl rfl ?_
  refine j_getS (k := 39) hX hfl cbX10 ty56 (by decide) rfl wd1179 rfl sb56_39 dX10_goFrom_93 ?_
  refine j_iload hX 1 dX10_goFrom_96 rfl ?_
  obtain ⟨x9, hv, h⟩ := bs h
  refine j_iald hX hE ty82 pc82 hv dX10_goFrom_98 ?_
  refine j_icmp_ge hX (tgt := 111) dX10_goFrom_99 (by decide) (fun hc => ?_) (fun hc => ?_)
  · rw [if_pos hc] at h
    refine j_iinc (L' := [(5, vI (w32 (v5 + 1))), (7, vI (w32 (x6 + x8))), (6, vI (x5)), (0, vR 56), (1, vI (v1)), (2, vI (v2)), (3, vI (v3)), (4, vI (v4))]) hX 7 dX10_goFrom_111 hnl (by decide) rfl rfl ?_
    refine j_goto hX (tgt := 3) dX10_goFrom_114 (by decide) ?_
    refine j_sub [3, 4, 5, 6, 7, 0] rfl ?_
    exact Hc _ _ h
  · rw [if_neg hc] at h
    refine j_aload_n hX 2 dX10_goFrom_102 rfl rfl ?_
    refine j_getS (k := 39) hX hfl cbX10 ty56 (by decide) rfl wd1179 rfl sb56_39 dX10_goFrom_103 ?_
    refine j_iload hX 1 dX10_goFrom_106 rfl ?_
    refine j_iload hX 0 dX10_goFrom_108 rfl ?_
    obtain ⟨S10, hv, h⟩ := bs h
    refine j_iast hX hE ty82 pc82 hv dX10_goFrom_110 ?_
    refine j_iinc (L' := [(5, vI (w32 (v5 + 1))), (7, vI (w32 (x6 + x8))), (6, vI (x5)), (0, vR 56), (1, vI (v1)), (2, vI (v2)), (3, vI (v3)), (4, vI (v4))]) hX 7 dX10_goFrom_111 hnl (by decide) rfl rfl ?_
    refine j_goto hX (tgt := 3) dX10_goFrom_114 (by decide) ?_
    refine j_sub [3, 4, 5, 6, 7, 0] rfl ?_
    exact Hc _ _ h
theorem sl_X10_goFrom_3 {X : K0} {B : Nat → Nat} {n : Nat} {E : Mem → Mem} {S' : Mem} (hX : Ctx X cX10_goFrom "TelegramFeelingsModel" 5) (hR : CR X none) (hfl : (gX X).2.2.2.2 = true) (hnl : X.2.2.2.2.2.2.2.2.2.2.2.2.2.2 = 8) (hE : Lens E PM)  {v1 : Int} {v2 : Int} {v3 : Int} {v4 : Int}  : ∀ (fu : Nat) (v5 : Int) (S : Mem), g_X10_goFrom_L3 v1 v2 v3 v4 fu v5 S = some S' → JW X B n 0 0 3 [(0, vR 56), (1, vI (v1)), (2, vI (v2)), (3, vI (v3)), (4, vI (v4)), (5, vI (v5))] [] (E S) (QM X (QcV (gX X) B n (E S'))) := by
  intro fu
  induction fu with
  | zero =>
    intro v5 S h
    rw [g_X10_goFrom_L3] at h
    cases h
  | succ fu ih =>
    intro v5 S h
    rw [g_X10_goFrom_L3] at h
    refine j_iload hX 5 dX10_goFrom_3 rfl ?_
    refine j_aload_n hX 0 dX10_goFrom_5 rfl rfl ?_
    refine j_getI (k := 1) hX hE cbX10 ty56 pc56 (by decide) rfl wd1141 rfl dX10_goFrom_6 ?_
    refine j_icmp_ge hX (tgt := 117) dX10_goFrom_9 (by decide) (fun hc => ?_) (fun hc => ?_)
    · rw [if_pos hc] at h
      cases h
      exact j_vret hX hR dX10_goFrom_117
    · rw [if_neg hc] at h
      refine j_aload_n hX 0 dX10_goFrom_12 rfl rfl ?_
      refine j_getS (k := 4) hX hfl cbX10 ty56 (by decide) rfl wd1144 rfl sb56_4 dX10_goFrom_13 ?_
      refine j_iload hX 5 dX10_goFrom_16 rfl ?_
      obtain ⟨x1, hv, h⟩ := bs h
      refine j_iald hX hE ty59 pc59 hv dX10_goFrom_18 ?_
      refine j_iload_n hX 2 dX10_goFrom_19 rfl rfl ?_
      refine j_callSI hX mwX10_mayStand msX10_mayStand wd1512 hyX10_mayStand (by omega) (by decide) ⟨Nat.zero_le _, Nat.zero_le _⟩ dX10_goFrom_20 (s_X10_mayStand hfl rfl) npX10_mayStand rfl (Nat.le_of_ble_eq_true rfl) ?_
      refine j_if_ne hX (tgt := 29) dX10_goFrom_23 (by decide) (fun hc => ?_) (fun hc => ?_)
      · rw [if_neg hc] at h
        refine j_aload_n hX 0 dX10_goFrom_29 rfl rfl ?_
        refine j_getS (k := 4) hX hfl cbX10 ty56 (by decide) rfl wd1144 rfl sb56_4 dX10_goFrom_30 ?_
        refine j_iload hX 5 dX10_goFrom_33 rfl ?_
        obtain ⟨x2, hv, h⟩ := bs h
        refine j_iald hX hE ty59 pc59 hv dX10_goFrom_35 ?_
        refine j_aload_n hX 0 dX10_goFrom_36 rfl rfl ?_
        refine j_getS (k := 4) hX hfl cbX10 ty56 (by decide) rfl wd1144 rfl sb56_4 dX10_goFrom_37 ?_
        refine j_iload hX 5 dX10_goFrom_40 rfl ?_
        obtain ⟨x3, hv, h⟩ := bs h
        refine j_iald hX hE ty59 pc59 hv dX10_goFrom_42 ?_
        refine j_iconst hX dX10_goFrom_43 (rc rfl) ?_
        refine j_icmp_ne hX (tgt := 51) dX10_goFrom_44 (by decide) (fun hc => ?_) (fun hc => ?_)
        · rw [if_neg hc] at h
          refine j_iload_n hX 3 dX10_goFrom_51 rfl rfl ?_
          refine j_sub [0, 1, 2, 3, 4, 5] rfl ?_
          exact sj_X10_goFrom_52 hX hR hfl hnl hE ih  h
        · rw [if_pos hc] at h
          refine j_iconst hX dX10_goFrom_47 (rc rfl) ?_
          refine j_goto hX (tgt := 52) dX10_goFrom_48 (by decide) ?_
          refine j_sub [0, 1, 2, 3, 4, 5] rfl ?_
          exact sj_X10_goFrom_52 hX hR hfl hnl hE ih  h
      · rw [if_pos hc] at h
        refine j_goto hX (tgt := 111) dX10_goFrom_26 (by decide) ?_
        refine j_iinc (L' := [(5, vI (w32 (v5 + 1))), (0, vR 56), (1, vI (v1)), (2, vI (v2)), (3, vI (v3)), (4, vI (v4))]) hX 5 dX10_goFrom_111 hnl (by decide) rfl rfl ?_
        refine j_goto hX (tgt := 3) dX10_goFrom_114 (by decide) ?_
        refine j_sub [1, 2, 3, 4, 5, 0] rfl ?_
        exact ih _ _ h
theorem s_X10_goFrom {g : G0} {B : Nat → Nat} {n : Nat} {E : Mem → Mem} {a1 : Int} {a2 : Int} {a3 : Int} {a4 : Int} {S : Mem} {S' : Mem} (hfl : g.2.2.2.2 = true) (hE : Lens E PM) (h : g_X10_goFrom a1 a2 a3 a4 S = some S') : Cn g B n yX10_goFrom cX10_goFrom 8 none 5 [vR 56, vI (a1), vI (a2), vI (a3), vI (a4)] (E S) (QcV g B n (E S')) := by
  refine Cn.of (by decide +kernel) (Nat.le_of_ble_eq_true rfl) (fun X hg hnl hX hR => ?_)
  subst hg
  have hX : Ctx X cX10_goFrom "TelegramFeelingsModel" 5 := hX
  unfold g_X10_goFrom at h
  show JW X B n 0 0 0 [(0, vR 56), (1, vI (a1)), (2, vI (a2)), (3, vI (a3)), (4, vI (a4))] [] (E S) (QM X (QcV (gX X) B n (E S')))
  refine j_iconst hX dX10_goFrom_0 (rc rfl) ?_
  refine j_istore (L' := [(5, vI (0)), (0, vR 56), (1, vI (a1)), (2, vI (a2)), (3, vI (a3)), (4, vI (a4))]) hX dX10_goFrom_1 hnl (by decide) rfl ?_
  refine j_sub [1, 2, 3, 4, 5, 0] rfl ?_
  refine sl_X10_goFrom_3 hX hR hfl hnl hE  _ _ _ h
theorem sl_X10_goPlace_2 {X : K0} {B : Nat → Nat} {n : Nat} {E : Mem → Mem} {S' : Mem} (hX : Ctx X cX10_goPlace "TelegramFeelingsModel" 6) (hR : CR X none) (hfl : (gX X).2.2.2.2 = true) (hnl : X.2.2.2.2.2.2.2.2.2.2.2.2.2.2 = 5) (hE : Lens E PM) {k24 : Mem → Option Mem} {v1 : Int} (K24 : ∀ (S : Mem), k24 S = some S' → JW X B n 0 0 24 [(0, vR 56), (1, vI (v1))] [] (E S) (QM X (QcV (gX X) B n (E S')))) : ∀ (fu : Nat) (v2 : Int) (S : Mem), g_X10_goPlace_L2 k24 v1 fu v2 S = some S' → JW X B n 0 0 2 [(0, vR 56), (1, vI (v1)), (2, vI (v2))] [] (E S) (QM X (QcV (gX X) B n (E S'))) := by
  intro fu
  induction fu with
  | zero =>
    intro v2 S h
    rw [g_X10_goPlace_L2] at h
    cases h
  | succ fu ih =>
    intro v2 S h
    rw [g_X10_goPlace_L2] at h
    refine j_iload_n hX 2 dX10_goPlace_2 rfl rfl ?_
    refine j_sipush hX dX10_goPlace_3 (rc rfl) (by decide) ?_
    refine j_icmp_ge hX (tgt := 24) dX10_goPlace_6 (by decide) (fun hc => ?_) (fun hc => ?_)
    · rw [if_pos hc] at h
      refine j_sub [0, 1] rfl ?_
      exact K24 _ h
    · rw [if_neg hc] at h
      refine j_aload_n hX 0 dX10_goPlace_9 rfl rfl ?_
      refine j_getS (k := 39) hX hfl cbX10 ty56 (by decide) rfl wd1179 rfl sb56_39 dX10_goPlace_10 ?_
      refine j_iload_n hX 2 dX10_goPlace_13 rfl rfl ?_
      refine j_ldcw (z := 9999999) hX wd1491 (by decide) dX10_goPlace_14 (rc rfl) ?_
      obtain ⟨S1, hv, h⟩ := bs h
      refine j_iast hX hE ty82 pc82 hv dX10_goPlace_17 ?_
      refine j_iinc (L' := [(2, vI (w32 (v2 + 1))), (0, vR 56), (1, vI (v1))]) hX 2 dX10_goPlace_18 hnl (by decide) rfl rfl ?_
      refine j_goto hX (tgt := 2) dX10_goPlace_21 (by decide) ?_
      refine j_sub [1, 2, 0] rfl ?_
      exact ih _ _ h
theorem sl_X10_goPlace_41 {X : K0} {B : Nat → Nat} {n : Nat} {E : Mem → Mem} {S' : Mem} (hX : Ctx X cX10_goPlace "TelegramFeelingsModel" 6) (hR : CR X none) (hfl : (gX X).2.2.2.2 = true) (hnl : X.2.2.2.2.2.2.2.2.2.2.2.2.2.2 = 5) (hE : Lens E PM) {k81 : Mem → Option Mem} {v1 : Int} {v2 : Int} {v3 : Int} (K81 : ∀ (S : Mem), k81 S = some S' → JW X B n 0 0 81 [(0, vR 56), (1, vI (v1)), (2, vI (v2)), (3, vI (v3))] [] (E S) (QM X (QcV (gX X) B n (E S')))) : ∀ (fu : Nat) (v4 : Int) (S : Mem), g_X10_goPlace_L41 k81 v1 v2 v3 fu v4 S = some S' → JW X B n 0 0 41 [(0, vR 56), (1, vI (v1)), (2, vI (v2)), (3, vI (v3)), (4, vI (v4))] [] (E S) (QM X (QcV (gX X) B n (E S'))) := by
  intro fu
  induction fu with
  | zero =>
    intro v4 S h
    rw [g_X10_goPlace_L41] at h
    cases h
  | succ fu ih =>
    intro v4 S h
    rw [g_X10_goPlace_L41] at h
    refine j_iload hX 4 dX10_goPlace_41 rfl ?_
    refine j_bipush hX dX10_goPlace_43 (rc rfl) (by decide) ?_
    refine j_icmp_ge hX (tgt := 81) dX10_goPlace_45 (by decide) (fun hc => ?_) (fun hc => ?_)
    · rw [if_pos hc] at h
      refine j_sub [0, 1, 2, 3] rfl ?_
      exact K81 _ h
    · rw [if_neg hc] at h
      refine j_aload_n hX 0 dX10_goPlace_48 rfl rfl ?_
      refine j_getS (k := 38) hX hfl cbX10 ty56 (by decide) rfl wd1178 rfl sb56_38 dX10_goPlace_49 ?_
      refine j_iload_n hX 2 dX10_goPlace_52 rfl rfl ?_
      refine j_iload_n hX 3 dX10_goPlace_53 rfl rfl ?_
      refine j_iload hX 4 dX10_goPlace_54 rfl ?_
      refine j_callSI hX mwX10_nowAt msX10_nowAt wd1542 hyX10_nowAt (by omega) (by decide) ⟨Nat.zero_le _, Nat.zero_le _⟩ dX10_goPlace_56 (s_X10_nowAt hfl rfl) npX10_nowAt rfl (Nat.le_of_ble_eq_true rfl) ?_
      obtain ⟨x3, hv, h⟩ := bs h
      refine j_iald hX hE ty81 pc81 hv dX10_goPlace_59 ?_
      refine j_ldcw (z := 9999999) hX wd1491 (by decide) dX10_goPlace_60 (rc rfl) ?_
      refine j_icmp_ge hX (tgt := 75) dX10_goPlace_63 (by decide) (fun hc => ?_) (fun hc => ?_)
      · rw [if_pos hc] at h
        refine j_iinc (L' := [(4, vI (w32 (v4 + 1))), (0, vR 56), (1, vI (v1)), (2, vI (v2)), (3, vI (v3))]) hX 4 dX10_goPlace_75 hnl (by decide) rfl rfl ?_
        refine j_goto hX (tgt := 41) dX10_goPlace_78 (by decide) ?_
        refine j_sub [1, 2, 3, 4, 0] rfl ?_
        exact ih _ _ h
      · rw [if_neg hc] at h
        refine j_aload_n hX 0 dX10_goPlace_66 rfl rfl ?_
        refine j_iload_n hX 1 dX10_goPlace_67 rfl rfl ?_
        refine j_iload_n hX 2 dX10_goPlace_68 rfl rfl ?_
        refine j_iload_n hX 3 dX10_goPlace_69 rfl rfl ?_
        refine j_iload hX 4 dX10_goPlace_70 rfl ?_
        obtain ⟨S4, h1, h⟩ := bs h
        refine j_callVV hX mwX10_goFrom miX10_goFrom wd1549 cbX10 ty56 hyX10_goFrom (by omega) (by decide) ⟨Nat.zero_le _, Nat.zero_le _⟩ dX10_goPlace_72 (s_X10_goFrom hfl hE h1) npX10_goFrom rfl (Nat.le_of_ble_eq_true rfl) ?_
        refine j_iinc (L' := [(4, vI (w32 (v4 + 1))), (0, vR 56), (1, vI (v1)), (2, vI (v2)), (3, vI (v3))]) hX 4 dX10_goPlace_75 hnl (by decide) rfl rfl ?_
        refine j_goto hX (tgt := 41) dX10_goPlace_78 (by decide) ?_
        refine j_sub [1, 2, 3, 4, 0] rfl ?_
        exact ih _ _ h
theorem sl_X10_goPlace_33 {X : K0} {B : Nat → Nat} {n : Nat} {E : Mem → Mem} {S' : Mem} (hX : Ctx X cX10_goPlace "TelegramFeelingsModel" 6) (hR : CR X none) (hfl : (gX X).2.2.2.2 = true) (hnl : X.2.2.2.2.2.2.2.2.2.2.2.2.2.2 = 5) (hE : Lens E PM) {k87 : Mem → Option Mem} {v1 : Int} {v2 : Int} (K87 : ∀ (S : Mem), k87 S = some S' → JW X B n 0 0 87 [(0, vR 56), (1, vI (v1)), (2, vI (v2))] [] (E S) (QM X (QcV (gX X) B n (E S')))) : ∀ (fu : Nat) (v3 : Int) (S : Mem), g_X10_goPlace_L33 k87 v1 v2 fu v3 S = some S' → JW X B n 0 0 33 [(0, vR 56), (1, vI (v1)), (2, vI (v2)), (3, vI (v3))] [] (E S) (QM X (QcV (gX X) B n (E S'))) := by
  intro fu
  induction fu with
  | zero =>
    intro v3 S h
    rw [g_X10_goPlace_L33] at h
    cases h
  | succ fu ih =>
    intro v3 S h
    rw [g_X10_goPlace_L33] at h
    refine j_iload_n hX 3 dX10_goPlace_33 rfl rfl ?_
    refine j_iconst hX dX10_goPlace_34 (rc rfl) ?_
    refine j_icmp_ge hX (tgt := 87) dX10_goPlace_35 (by decide) (fun hc => ?_) (fun hc => ?_)
    · rw [if_pos hc] at h
      refine j_sub [0, 1, 2] rfl ?_
      exact K87 _ h
    · rw [if_neg hc] at h
      refine j_iconst hX dX10_goPlace_38 (rc rfl) ?_
      refine j_istore (L' := [(4, vI (0)), (0, vR 56), (1, vI (v1)), (2, vI (v2)), (3, vI (v3))]) hX dX10_goPlace_39 hnl (by decide) rfl ?_
      refine j_sub [1, 2, 3, 4, 0] rfl ?_
      refine sl_X10_goPlace_41 hX hR hfl hnl hE (fun S5 h => ?_) _ _ _ h
      refine j_iinc (L' := [(3, vI (w32 (v3 + 1))), (0, vR 56), (1, vI (v1)), (2, vI (v2))]) hX 3 dX10_goPlace_81 hnl (by decide) rfl rfl ?_
      refine j_goto hX (tgt := 33) dX10_goPlace_84 (by decide) ?_
      refine j_sub [1, 2, 3, 0] rfl ?_
      exact ih _ _ h
theorem sl_X10_goPlace_26 {X : K0} {B : Nat → Nat} {n : Nat} {E : Mem → Mem} {S' : Mem} (hX : Ctx X cX10_goPlace "TelegramFeelingsModel" 6) (hR : CR X none) (hfl : (gX X).2.2.2.2 = true) (hnl : X.2.2.2.2.2.2.2.2.2.2.2.2.2.2 = 5) (hE : Lens E PM) {k93 : Mem → Option Mem} {v1 : Int} (K93 : ∀ (S : Mem), k93 S = some S' → JW X B n 0 0 93 [(0, vR 56)] [] (E S) (QM X (QcV (gX X) B n (E S')))) : ∀ (fu : Nat) (v2 : Int) (S : Mem), g_X10_goPlace_L26 k93 v1 fu v2 S = some S' → JW X B n 0 0 26 [(0, vR 56), (1, vI (v1)), (2, vI (v2))] [] (E S) (QM X (QcV (gX X) B n (E S'))) := by
  intro fu
  induction fu with
  | zero =>
    intro v2 S h
    rw [g_X10_goPlace_L26] at h
    cases h
  | succ fu ih =>
    intro v2 S h
    rw [g_X10_goPlace_L26] at h
    refine j_iload_n hX 2 dX10_goPlace_26 rfl rfl ?_
    refine j_iconst hX dX10_goPlace_27 (rc rfl) ?_
    refine j_icmp_ge hX (tgt := 93) dX10_goPlace_28 (by decide) (fun hc => ?_) (fun hc => ?_)
    · rw [if_pos hc] at h
      refine j_sub [0] rfl ?_
      exact K93 _ h
    · rw [if_neg hc] at h
      refine j_iconst hX dX10_goPlace_31 (rc rfl) ?_
      refine j_istore_n (L' := [(3, vI (0)), (0, vR 56), (1, vI (v1)), (2, vI (v2))]) hX dX10_goPlace_32 rfl hnl (by decide) rfl ?_
      refine j_sub [1, 2, 3, 0] rfl ?_
      refine sl_X10_goPlace_33 hX hR hfl hnl hE (fun S6 h => ?_) _ _ _ h
      refine j_iinc (L' := [(2, vI (w32 (v2 + 1))), (0, vR 56), (1, vI (v1))]) hX 2 dX10_goPlace_87 hnl (by decide) rfl rfl ?_
      refine j_goto hX (tgt := 26) dX10_goPlace_90 (by decide) ?_
      refine j_sub [1, 2, 0] rfl ?_
      exact ih _ _ h
theorem sl_X10_goPlace_95 {X : K0} {B : Nat → Nat} {n : Nat} {E : Mem → Mem} {S' : Mem} (hX : Ctx X cX10_goPlace "TelegramFeelingsModel" 6) (hR : CR X none) (hfl : (gX X).2.2.2.2 = true) (hnl : X.2.2.2.2.2.2.2.2.2.2.2.2.2.2 = 5) (hE : Lens E PM)    : ∀ (fu : Nat) (v2 : Int) (S : Mem), g_X10_goPlace_L95 fu v2 S = some S' → JW X B n 0 0 95 [(0, vR 56), (2, vI (v2))] [] (E S) (QM X (QcV (gX X) B n (E S'))) := by
  intro fu
  induction fu with
  | zero =>
    intro v2 S h
    rw [g_X10_goPlace_L95] at h
    cases h
  | succ fu ih =>
    intro v2 S h
    rw [g_X10_goPlace_L95] at h
    refine j_iload_n hX 1 dX10_goPlace_95 rfl rfl ?_
    refine j_sipush hX dX10_goPlace_96 (rc rfl) (by decide) ?_
    refine j_icmp_ge hX (tgt := 120) dX10_goPlace_99 (by decide) (fun hc => ?_) (fun hc => ?_)
    · rw [if_pos hc] at h
      cases h
      exact j_vret hX hR dX10_goPlace_120
    · rw [if_neg hc] at h
      refine j_aload_n hX 0 dX10_goPlace_102 rfl rfl ?_
      refine j_getS (k := 38) hX hfl cbX10 ty56 (by decide) rfl wd1178 rfl sb56_38 dX10_goPlace_103 ?_
      refine j_iload_n hX 1 dX10_goPlace_106 rfl rfl ?_
      refine j_aload_n hX 0 dX10_goPlace_107 rfl rfl ?_
      refine j_getS (k := 39) hX hfl cbX10 ty56 (by decide) rfl wd1179 rfl sb56_39 dX10_goPlace_108 ?_
      refine j_iload_n hX 1 dX10_goPlace_111 rfl rfl ?_
      obtain ⟨x8, hv, h⟩ := bs h
      refine j_iald hX hE ty82 pc82 hv dX10_goPlace_112 ?_
      obtain ⟨S9, hv, h⟩ := bs h
      refine j_iast hX hE ty81 pc81 hv dX10_goPlace_113 ?_
      refine j_iinc (L' := [(2, vI (w32 (v2 + 1))), (0, vR 56)]) hX 1 dX10_goPlace_114 hnl (by decide) rfl rfl ?_
      refine j_goto hX (tgt := 95) dX10_goPlace_117 (by decide) ?_
      refine j_sub [1, 0] rfl ?_
      exact ih _ _ h
theorem s_X10_goPlace {g : G0} {B : Nat → Nat} {n : Nat} {E : Mem → Mem} {a1 : Int} {S : Mem} {S' : Mem} (hfl : g.2.2.2.2 = true) (hE : Lens E PM) (h : g_X10_goPlace a1 S = some S') : Cn g B n yX10_goPlace cX10_goPlace 5 none 6 [vR 56, vI (a1)] (E S) (QcV g B n (E S')) := by
  refine Cn.of (by decide +kernel) (Nat.le_of_ble_eq_true rfl) (fun X hg hnl hX hR => ?_)
  subst hg
  have hX : Ctx X cX10_goPlace "TelegramFeelingsModel" 6 := hX
  unfold g_X10_goPlace at h
  show JW X B n 0 0 0 [(0, vR 56), (1, vI (a1))] [] (E S) (QM X (QcV (gX X) B n (E S')))
  refine j_iconst hX dX10_goPlace_0 (rc rfl) ?_
  refine j_istore_n (L' := [(2, vI (0)), (0, vR 56), (1, vI (a1))]) hX dX10_goPlace_1 rfl hnl (by decide) rfl ?_
  refine j_sub [1, 2, 0] rfl ?_
  refine sl_X10_goPlace_2 hX hR hfl hnl hE (fun S2 h => ?_) _ _ _ h
  refine j_iconst hX dX10_goPlace_24 (rc rfl) ?_
  refine j_istore_n (L' := [(2, vI (0)), (0, vR 56), (1, vI (a1))]) hX dX10_goPlace_25 rfl hnl (by decide) rfl ?_
  refine j_sub [1, 2, 0] rfl ?_
  refine sl_X10_goPlace_26 hX hR hfl hnl hE (fun S7 h => ?_) _ _ _ h
  refine j_iconst hX dX10_goPlace_93 (rc rfl) ?_
  refine j_istore_n (L' := [(2, vI (0)), (0, vR 56)]) hX dX10_goPlace_94 rfl hnl (by decide) rfl ?_
  refine j_sub [1, 0] rfl ?_
  refine sl_X10_goPlace_95 hX hR hfl hnl hE  _ _ _ h
theorem sl_X10_findLeast_2 {X : K0} {B : Nat → Nat} {n : Nat} {E : Mem → Mem} {S' : Mem} (hX : Ctx X cX10_findLeast "TelegramFeelingsModel" 7) (hR : CR X none) (hfl : (gX X).2.2.2.2 = true) (hnl : X.2.2.2.2.2.2.2.2.2.2.2.2.2.2 = 4) (hE : Lens E PM) {k23 : Mem → Option Mem}  (K23 : ∀ (S : Mem), k23 S = some S' → JW X B n 0 0 23 [(0, vR 56)] [] (E S) (QM X (QcV (gX X) B n (E S')))) : ∀ (fu : Nat) (v1 : Int) (S : Mem), g_X10_findLeast_L2 k23 fu v1 S = some S' → JW X B n 0 0 2 [(0, vR 56), (1, vI (v1))] [] (E S) (QM X (QcV (gX X) B n (E S'))) := by
  intro fu
  induction fu with
  | zero =>
    intro v1 S h
    rw [g_X10_findLeast_L2] at h
    cases h
  | succ fu ih =>
    intro v1 S h
    rw [g_X10_findLeast_L2] at h
    refine j_iload_n hX 1 dX10_findLeast_2 rfl rfl ?_
    refine j_bipush hX dX10_findLeast_3 (rc rfl) (by decide) ?_
    refine j_icmp_ge hX (tgt := 23) dX10_findLeast_5 (by decide) (fun hc => ?_) (fun hc => ?_)
    · rw [if_pos hc] at h
      refine j_sub [0] rfl ?_
      exact K23 _ h
    · rw [if_neg hc] at h
      refine j_aload_n hX 0 dX10_findLeast_8 rfl rfl ?_
      refine j_getS (k := 40) hX hfl cbX10 ty56 (by decide) rfl wd1180 rfl sb56_40 dX10_findLeast_9 ?_
      refine j_iload_n hX 1 dX10_findLeast_12 rfl rfl ?_
      refine j_ldcw (z := 9999999) hX wd1491 (by decide) dX10_findLeast_13 (rc rfl) ?_
      obtain ⟨S1, hv, h⟩ := bs h
      refine j_iast hX hE ty83 pc83 hv dX10_findLeast_16 ?_
      refine j_iinc (L' := [(1, vI (w32 (v1 + 1))), (0, vR 56)]) hX 1 dX10_findLeast_17 hnl (by decide) rfl rfl ?_
      refine j_goto hX (tgt := 2) dX10_findLeast_20 (by decide) ?_
      refine j_sub [1, 0] rfl ?_
      exact ih _ _ h
theorem sl_X10_findLeast_25 {X : K0} {B : Nat → Nat} {n : Nat} {E : Mem → Mem} {S' : Mem} (hX : Ctx X cX10_findLeast "TelegramFeelingsModel" 7) (hR : CR X none) (hfl : (gX X).2.2.2.2 = true) (hnl : X.2.2.2.2.2.2.2.2.2.2.2.2.2.2 = 4) (hE : Lens E PM) {k47 : Mem → Option Mem}  (K47 : ∀ (S : Mem), k47 S = some S' → JW X B n 0 0 47 [(0, vR 56)] [] (E S) (QM X (QcV (gX X) B n (E S')))) : ∀ (fu : Nat) (v1 : Int) (S : Mem), g_X10_findLeast_L25 k47 fu v1 S = some S' → JW X B n 0 0 25 [(0, vR 56), (1, vI (v1))] [] (E S) (QM X (QcV (gX X) B n (E S'))) := by
  intro fu
  induction fu with
  | zero =>
    intro v1 S h
    rw [g_X10_findLeast_L25] at h
    cases h
  | succ fu ih =>
    intro v1 S h
    rw [g_X10_findLeast_L25] at h
    refine j_iload_n hX 1 dX10_findLeast_25 rfl rfl ?_
    refine j_sipush hX dX10_findLeast_26 (rc rfl) (by decide) ?_
    refine j_icmp_ge hX (tgt := 47) dX10_findLeast_29 (by decide) (fun hc => ?_) (fun hc => ?_)
    · rw [if_pos hc] at h
      refine j_sub [0] rfl ?_
      exact K47 _ h
    · rw [if_neg hc] at h
      refine j_aload_n hX 0 dX10_findLeast_32 rfl rfl ?_
      refine j_getS (k := 38) hX hfl cbX10 ty56 (by decide) rfl wd1178 rfl sb56_38 dX10_findLeast_33 ?_
      refine j_iload_n hX 1 dX10_findLeast_36 rfl rfl ?_
      refine j_ldcw (z := 9999999) hX wd1491 (by decide) dX10_findLeast_37 (rc rfl) ?_
      obtain ⟨S3, hv, h⟩ := bs h
      refine j_iast hX hE ty81 pc81 hv dX10_findLeast_40 ?_
      refine j_iinc (L' := [(1, vI (w32 (v1 + 1))), (0, vR 56)]) hX 1 dX10_findLeast_41 hnl (by decide) rfl rfl ?_
      refine j_goto hX (tgt := 25) dX10_findLeast_44 (by decide) ?_
      refine j_sub [1, 0] rfl ?_
      exact ih _ _ h
theorem sl_X10_findLeast_81 {X : K0} {B : Nat → Nat} {n : Nat} {E : Mem → Mem} {S' : Mem} (hX : Ctx X cX10_findLeast "TelegramFeelingsModel" 7) (hR : CR X none) (hfl : (gX X).2.2.2.2 = true) (hnl : X.2.2.2.2.2.2.2.2.2.2.2.2.2.2 = 4) (hE : Lens E PM) {k130 : Mem → Option Mem} {v1 : Int} {v2 : Int} (K130 : ∀ (S : Mem), k130 S = some S' → JW X B n 0 0 130 [(0, vR 56), (1, vI (v1)), (2, vI (v2))] [] (E S) (QM X (QcV (gX X) B n (E S')))) : ∀ (fu : Nat) (v3 : Int) (S : Mem), g_X10_findLeast_L81 k130 v1 v2 fu v3 S = some S' → JW X B n 0 0 81 [(0, vR 56), (1, vI (v1)), (2, vI (v2)), (3, vI (v3))] [] (E S) (QM X (QcV (gX X) B n (E S'))) := by
  intro fu
  induction fu with
  | zero =>
    intro v3 S h
    rw [g_X10_findLeast_L81] at h
    cases h
  | succ fu ih =>
    intro v3 S h
    rw [g_X10_findLeast_L81] at h
    refine j_iload_n hX 3 dX10_findLeast_81 rfl rfl ?_
    refine j_bipush hX dX10_findLeast_82 (rc rfl) (by decide) ?_
    refine j_icmp_ge hX (tgt := 130) dX10_findLeast_84 (by decide) (fun hc => ?_) (fun hc => ?_)
    · rw [if_pos hc] at h
      refine j_sub [0, 1, 2] rfl ?_
      exact K130 _ h
    · rw [if_neg hc] at h
      refine j_aload_n hX 0 dX10_findLeast_87 rfl rfl ?_
      refine j_getS (k := 38) hX hfl cbX10 ty56 (by decide) rfl wd1178 rfl sb56_38 dX10_findLeast_88 ?_
      refine j_iload_n hX 2 dX10_findLeast_91 rfl rfl ?_
      refine j_iconst hX dX10_findLeast_92 (rc rfl) ?_
      refine j_iload_n hX 3 dX10_findLeast_93 rfl rfl ?_
      refine j_callSI hX mwX10_nowAt msX10_nowAt wd1542 hyX10_nowAt (by omega) (by decide) ⟨Nat.zero_le _, Nat.zero_le _⟩ dX10_findLeast_94 (s_X10_nowAt hfl rfl) npX10_nowAt rfl (Nat.le_of_ble_eq_true rfl) ?_
      obtain ⟨x7, hv, h⟩ := bs h
      refine j_iald hX hE ty81 pc81 hv dX10_findLeast_97 ?_
      refine j_aload_n hX 0 dX10_findLeast_98 rfl rfl ?_
      refine j_getS (k := 40) hX hfl cbX10 ty56 (by decide) rfl wd1180 rfl sb56_40 dX10_findLeast_99 ?_
      refine j_iload_n hX 3 dX10_findLeast_102 rfl rfl ?_
      obtain ⟨x8, hv, h⟩ := bs h
      refine j_iald hX hE ty83 pc83 hv dX10_findLeast_103 ?_
      refine j_icmp_ge hX (tgt := 124) dX10_findLeast_104 (by decide) (fun hc => ?_) (fun hc => ?_)
      · rw [if_pos hc] at h
        refine j_iinc (L' := [(3, vI (w32 (v3 + 1))), (0, vR 56), (1, vI (v1)), (2, vI (v2))]) hX 3 dX10_findLeast_124 hnl (by decide) rfl rfl ?_
        refine j_goto hX (tgt := 81) dX10_findLeast_127 (by decide) ?_
        refine j_sub [1, 2, 3, 0] rfl ?_
        exact ih _ _ h
      · rw [if_neg hc] at h
        refine j_aload_n hX 0 dX10_findLeast_107 rfl rfl ?_
        refine j_getS (k := 40) hX hfl cbX10 ty56 (by decide) rfl wd1180 rfl sb56_40 dX10_findLeast_108 ?_
        refine j_iload_n hX 3 dX10_findLeast_111 rfl rfl ?_
        refine j_aload_n hX 0 dX10_findLeast_112 rfl rfl ?_
        refine j_getS (k := 38) hX hfl cbX10 ty56 (by decide) rfl wd1178 rfl sb56_38 dX10_findLeast_113 ?_
        refine j_iload_n hX 2 dX10_findLeast_116 rfl rfl ?_
        refine j_iconst hX dX10_findLeast_117 (rc rfl) ?_
        refine j_iload_n hX 3 dX10_findLeast_118 rfl rfl ?_
        refine j_callSI hX mwX10_nowAt msX10_nowAt wd1542 hyX10_nowAt (by omega) (by decide) ⟨Nat.zero_le _, Nat.zero_le _⟩ dX10_findLeast_119 (s_X10_nowAt hfl rfl) npX10_nowAt rfl (Nat.le_of_ble_eq_true rfl) ?_
        obtain ⟨x9, hv, h⟩ := bs h
        refine j_iald hX hE ty81 pc81 hv dX10_findLeast_122 ?_
        obtain ⟨S10, hv, h⟩ := bs h
        refine j_iast hX hE ty83 pc83 hv dX10_findLeast_123 ?_
        refine j_iinc (L' := [(3, vI (w32 (v3 + 1))), (0, vR 56), (1, vI (v1)), (2, vI (v2))]) hX 3 dX10_findLeast_124 hnl (by decide) rfl rfl ?_
        refine j_goto hX (tgt := 81) dX10_findLeast_127 (by decide) ?_
        refine j_sub [1, 2, 3, 0] rfl ?_
        exact ih _ _ h
theorem sl_X10_findLeast_74 {X : K0} {B : Nat → Nat} {n : Nat} {E : Mem → Mem} {S' : Mem} (hX : Ctx X cX10_findLeast "TelegramFeelingsModel" 7) (hR : CR X none) (hfl : (gX X).2.2.2.2 = true) (hnl : X.2.2.2.2.2.2.2.2.2.2.2.2.2.2 = 4) (hE : Lens E PM) {k136 : Mem → Option Mem} {v1 : Int} (K136 : ∀ (S : Mem), k136 S = some S' → JW X B n 0 0 136 [(0, vR 56), (1, vI (v1))] [] (E S) (QM X (QcV (gX X) B n (E S')))) : ∀ (fu : Nat) (v2 : Int) (S : Mem), g_X10_findLeast_L74 k136 v1 fu v2 S = some S' → JW X B n 0 0 74 [(0, vR 56), (1, vI (v1)), (2, vI (v2))] [] (E S) (QM X (QcV (gX X) B n (E S'))) := by
  intro fu
  induction fu with
  | zero =>
    intro v2 S h
    rw [g_X10_findLeast_L74] at h
    cases h
  | succ fu ih =>
    intro v2 S h
    rw [g_X10_findLeast_L74] at h
    refine j_iload_n hX 2 dX10_findLeast_74 rfl rfl ?_
    refine j_iconst hX dX10_findLeast_75 (rc rfl) ?_
    refine j_icmp_ge hX (tgt := 136) dX10_findLeast_76 (by decide) (fun hc => ?_) (fun hc => ?_)
    · rw [if_pos hc] at h
      refine j_sub [0, 1] rfl ?_
      exact K136 _ h
    · rw [if_neg hc] at h
      refine j_iconst hX dX10_findLeast_79 (rc rfl) ?_
      refine j_istore_n (L' := [(3, vI (0)), (0, vR 56), (1, vI (v1)), (2, vI (v2))]) hX dX10_findLeast_80 rfl hnl (by decide) rfl ?_
      refine j_sub [1, 2, 3, 0] rfl ?_
      refine sl_X10_findLeast_81 hX hR hfl hnl hE (fun S11 h => ?_) _ _ _ h
      refine j_iinc (L' := [(2, vI (w32 (v2 + 1))), (0, vR 56), (1, vI (v1))]) hX 2 dX10_findLeast_130 hnl (by decide) rfl rfl ?_
      refine j_goto hX (tgt := 74) dX10_findLeast_133 (by decide) ?_
      refine j_sub [1, 2, 0] rfl ?_
      exact ih _ _ h
theorem sl_X10_findLeast_61 {X : K0} {B : Nat → Nat} {n : Nat} {E : Mem → Mem} {S' : Mem} (hX : Ctx X cX10_findLeast "TelegramFeelingsModel" 7) (hR : CR X none) (hfl : (gX X).2.2.2.2 = true) (hnl : X.2.2.2.2.2.2.2.2.2.2.2.2.2.2 = 4) (hE : Lens E PM)    : ∀ (fu : Nat) (v1 : Int) (S : Mem), g_X10_findLeast_L61 fu v1 S = some S' → JW X B n 0 0 61 [(0, vR 56), (1, vI (v1))] [] (E S) (QM X (QcV (gX X) B n (E S'))) := by
  intro fu
  induction fu with
  | zero =>
    intro v1 S h
    rw [g_X10_findLeast_L61] at h
    cases h
  | succ fu ih =>
    intro v1 S h
    rw [g_X10_findLeast_L61] at h
    refine j_iload_n hX 1 dX10_findLeast_61 rfl rfl ?_
    refine j_bipush hX dX10_findLeast_62 (rc rfl) (by decide) ?_
    refine j_icmp_ge hX (tgt := 142) dX10_findLeast_64 (by decide) (fun hc => ?_) (fun hc => ?_)
    · rw [if_pos hc] at h
      cases h
      exact j_vret hX hR dX10_findLeast_142
    · rw [if_neg hc] at h
      refine j_aload_n hX 0 dX10_findLeast_67 rfl rfl ?_
      refine j_iload_n hX 1 dX10_findLeast_68 rfl rfl ?_
      obtain ⟨S6, h1, h⟩ := bs h
      refine j_callVV hX mwX10_goPlace miX10_goPlace wd1545 cbX10 ty56 hyX10_goPlace (by omega) (by decide) ⟨Nat.zero_le _, Nat.zero_le _⟩ dX10_findLeast_69 (s_X10_goPlace hfl hE h1) npX10_goPlace rfl (Nat.le_of_ble_eq_true rfl) ?_
      refine j_iconst hX dX10_findLeast_72 (rc rfl) ?_
      refine j_istore_n (L' := [(2, vI (0)), (0, vR 56), (1, vI (v1))]) hX dX10_findLeast_73 rfl hnl (by decide) rfl ?_
      refine j_sub [1, 2, 0] rfl ?_
      refine sl_X10_findLeast_74 hX hR hfl hnl hE (fun S12 h => ?_) _ _ _ h
      refine j_iinc (L' := [(1, vI (w32 (v1 + 1))), (0, vR 56)]) hX 1 dX10_findLeast_136 hnl (by decide) rfl rfl ?_
      refine j_goto hX (tgt := 61) dX10_findLeast_139 (by decide) ?_
      refine j_sub [1, 0] rfl ?_
      exact ih _ _ h
theorem s_X10_findLeast {g : G0} {B : Nat → Nat} {n : Nat} {E : Mem → Mem}  {S : Mem} {S' : Mem} (hfl : g.2.2.2.2 = true) (hE : Lens E PM) (h : g_X10_findLeast S = some S') : Cn g B n yX10_findLeast cX10_findLeast 4 none 7 [vR 56] (E S) (QcV g B n (E S')) := by
  refine Cn.of (by decide +kernel) (Nat.le_of_ble_eq_true rfl) (fun X hg hnl hX hR => ?_)
  subst hg
  have hX : Ctx X cX10_findLeast "TelegramFeelingsModel" 7 := hX
  unfold g_X10_findLeast at h
  show JW X B n 0 0 0 [(0, vR 56)] [] (E S) (QM X (QcV (gX X) B n (E S')))
  refine j_iconst hX dX10_findLeast_0 (rc rfl) ?_
  refine j_istore_n (L' := [(1, vI (0)), (0, vR 56)]) hX dX10_findLeast_1 rfl hnl (by decide) rfl ?_
  refine j_sub [1, 0] rfl ?_
  refine sl_X10_findLeast_2 hX hR hfl hnl hE (fun S2 h => ?_) _ _ _ h
  refine j_iconst hX dX10_findLeast_23 (rc rfl) ?_
  refine j_istore_n (L' := [(1, vI (0)), (0, vR 56)]) hX dX10_findLeast_24 rfl hnl (by decide) rfl ?_
  refine j_sub [1, 0] rfl ?_
  refine sl_X10_findLeast_25 hX hR hfl hnl hE (fun S4 h => ?_) _ _ _ h
  refine j_aload_n hX 0 dX10_findLeast_47 rfl rfl ?_
  refine j_getS (k := 38) hX hfl cbX10 ty56 (by decide) rfl wd1178 rfl sb56_38 dX10_findLeast_48 ?_
  refine j_iconst hX dX10_findLeast_51 (rc rfl) ?_
  refine j_iconst hX dX10_findLeast_52 (rc rfl) ?_
  refine j_iconst hX dX10_findLeast_53 (rc rfl) ?_
  refine j_callSI hX mwX10_nowAt msX10_nowAt wd1542 hyX10_nowAt (by omega) (by decide) ⟨Nat.zero_le _, Nat.zero_le _⟩ dX10_findLeast_54 (s_X10_nowAt hfl rfl) npX10_nowAt rfl (Nat.le_of_ble_eq_true rfl) ?_
  refine j_iconst hX dX10_findLeast_57 (rc rfl) ?_
  obtain ⟨S5, hv, h⟩ := bs h
  refine j_iast hX hE ty81 pc81 hv dX10_findLeast_58 ?_
  refine j_iconst hX dX10_findLeast_59 (rc rfl) ?_
  refine j_istore_n (L' := [(1, vI (0)), (0, vR 56)]) hX dX10_findLeast_60 rfl hnl (by decide) rfl ?_
  refine j_sub [1, 0] rfl ?_
  refine sl_X10_findLeast_61 hX hR hfl hnl hE  _ _ _ h
theorem sl_X10_allFor_32 {X : K0} {B : Nat → Nat} {n : Nat} {E : Mem → Mem} {r : Int} {S' : Mem} (hX : Ctx X cX10_allFor "TelegramFeelingsModel" 8) (hR : CR X (some .int)) (hfl : (gX X).2.2.2.2 = true) (hnl : X.2.2.2.2.2.2.2.2.2.2.2.2.2.2 = 5) (hE : Lens E PM) {k75 : Int → Mem → Option (Int × Mem)} {v1 : Int} {v2 : Int} (K75 : ∀ (v3 : Int) (S : Mem), k75 v3 S = some (r, S') → JW X B n 0 0 75 [(2, vI (v2)), (3, vI (v3))] [] (E S) (QM X (QcI (gX X) B n r (E S')))) : ∀ (fu : Nat) (v3 : Int) (v4 : Int) (S : Mem), g_X10_allFor_L32 k75 v1 v2 fu v3 v4 S = some (r, S') → JW X B n 0 0 32 [(0, vR 56), (1, vI (v1)), (2, vI (v2)), (3, vI (v3)), (4, vI (v4))] [] (E S) (QM X (QcI (gX X) B n r (E S'))) := by
  intro fu
  induction fu with
  | zero =>
    intro v3 v4 S h
    rw [g_X10_allFor_L32] at h
    cases h
  | succ fu ih =>
    intro v3 v4 S h
    rw [g_X10_allFor_L32] at h
    refine j_iload hX 4 dX10_allFor_32 rfl ?_
    refine j_bipush hX dX10_allFor_34 (rc rfl) (by decide) ?_
    refine j_icmp_ge hX (tgt := 75) dX10_allFor_36 (by decide) (fun hc => ?_) (fun hc => ?_)
    · rw [if_pos hc] at h
      refine j_sub [2, 3] rfl ?_
      exact K75 _ _ h
    · rw [if_neg hc] at h
      refine j_aload_n hX 0 dX10_allFor_39 rfl rfl ?_
      refine j_getS (k := 40) hX hfl cbX10 ty56 (by decide) rfl wd1180 rfl sb56_40 dX10_allFor_40 ?_
      refine j_iload hX 4 dX10_allFor_43 rfl ?_
      obtain ⟨x2, hv, h⟩ := bs h
      refine j_iald hX hE ty83 pc83 hv dX10_allFor_45 ?_
      refine j_iload_n hX 1 dX10_allFor_46 rfl rfl ?_
      refine j_icmp_gt hX (tgt := 69) dX10_allFor_47 (by decide) (fun hc => ?_) (fun hc => ?_)
      · rw [if_pos hc] at h
        refine j_iinc (L' := [(4, vI (w32 (v4 + 1))), (0, vR 56), (1, vI (v1)), (2, vI (v2)), (3, vI (v3))]) hX 4 dX10_allFor_69 hnl (by decide) rfl rfl ?_
        refine j_goto hX (tgt := 32) dX10_allFor_72 (by decide) ?_
        refine j_sub [1, 2, 3, 4, 0] rfl ?_
        exact ih _ _ _ h
      · rw [if_neg hc] at h
        refine j_iload_n hX 3 dX10_allFor_50 rfl rfl ?_
        refine j_if_lt hX (tgt := 66) dX10_allFor_51 (by decide) (fun hc => ?_) (fun hc => ?_)
        · rw [if_pos hc] at h
          refine j_iload hX 4 dX10_allFor_66 rfl ?_
          refine j_istore_n (L' := [(3, vI (v4)), (0, vR 56), (1, vI (v1)), (2, vI (v2)), (4, vI (v4))]) hX dX10_allFor_68 rfl hnl (by decide) rfl ?_
          refine j_iinc (L' := [(4, vI (w32 (v4 + 1))), (3, vI (v4)), (0, vR 56), (1, vI (v1)), (2, vI (v2))]) hX 4 dX10_allFor_69 hnl (by decide) rfl rfl ?_
          refine j_goto hX (tgt := 32) dX10_allFor_72 (by decide) ?_
          refine j_sub [2, 3, 4, 1, 0] rfl ?_
          exact ih _ _ _ h
        · rw [if_neg hc] at h
          refine j_iload hX 4 dX10_allFor_54 rfl ?_
          obtain ⟨x3, h1, h⟩ := bs h
          refine j_callSI hX mwX10_bitsOf msX10_bitsOf wd1553 hyX10_bitsOf (by omega) (by decide) ⟨Nat.zero_le _, Nat.zero_le _⟩ dX10_allFor_56 (s_X10_bitsOf hfl h1) npX10_bitsOf rfl (Nat.le_of_ble_eq_true rfl) ?_
          refine j_iload_n hX 3 dX10_allFor_59 rfl rfl ?_
          obtain ⟨x4, h1, h⟩ := bs h
          refine j_callSI hX mwX10_bitsOf msX10_bitsOf wd1553 hyX10_bitsOf (by omega) (by decide) ⟨Nat.zero_le _, Nat.zero_le _⟩ dX10_allFor_60 (s_X10_bitsOf hfl h1) npX10_bitsOf rfl (Nat.le_of_ble_eq_true rfl) ?_
          refine j_icmp_le hX (tgt := 69) dX10_allFor_63 (by decide) (fun hc => ?_) (fun hc => ?_)
          · rw [if_pos hc] at h
            refine j_iinc (L' := [(4, vI (w32 (v4 + 1))), (0, vR 56), (1, vI (v1)), (2, vI (v2)), (3, vI (v3))]) hX 4 dX10_allFor_69 hnl (by decide) rfl rfl ?_
            refine j_goto hX (tgt := 32) dX10_allFor_72 (by decide) ?_
            refine j_sub [1, 2, 3, 4, 0] rfl ?_
            exact ih _ _ _ h
          · rw [if_neg hc] at h
            refine j_iload hX 4 dX10_allFor_66 rfl ?_
            refine j_istore_n (L' := [(3, vI (v4)), (0, vR 56), (1, vI (v1)), (2, vI (v2)), (4, vI (v4))]) hX dX10_allFor_68 rfl hnl (by decide) rfl ?_
            refine j_iinc (L' := [(4, vI (w32 (v4 + 1))), (3, vI (v4)), (0, vR 56), (1, vI (v1)), (2, vI (v2))]) hX 4 dX10_allFor_69 hnl (by decide) rfl rfl ?_
            refine j_goto hX (tgt := 32) dX10_allFor_72 (by decide) ?_
            refine j_sub [2, 3, 4, 1, 0] rfl ?_
            exact ih _ _ _ h
theorem s_X10_allFor {g : G0} {B : Nat → Nat} {n : Nat} {E : Mem → Mem} {a1 : Int} {a2 : Int} {S : Mem} {r : Int} {S' : Mem} (hfl : g.2.2.2.2 = true) (hE : Lens E PM) (h : g_X10_allFor a1 a2 S = some (r, S')) : Cn g B n yX10_allFor cX10_allFor 5 (some .int) 8 [vR 56, vI (a1), vI (a2)] (E S) (QcI g B n r (E S')) := by
  refine Cn.of (by decide +kernel) (Nat.le_of_ble_eq_true rfl) (fun X hg hnl hX hR => ?_)
  subst hg
  have hX : Ctx X cX10_allFor "TelegramFeelingsModel" 8 := hX
  unfold g_X10_allFor at h
  show JW X B n 0 0 0 [(0, vR 56), (1, vI (a1)), (2, vI (a2))] [] (E S) (QM X (QcI (gX X) B n r (E S')))
  refine j_iload_n hX 1 dX10_allFor_0 rfl rfl ?_
  refine j_iconst hX dX10_allFor_1 (rc rfl) ?_
  refine j_sipush hX dX10_allFor_2 (rc rfl) (by decide) ?_
  refine j_callSI hX mwX10_in msX10_in wd1326 hyX10_in (by omega) (by decide) ⟨Nat.zero_le _, Nat.zero_le _⟩ dX10_allFor_5 (s_X10_in hfl rfl) npX10_in rfl (Nat.le_of_ble_eq_true rfl) ?_
  refine j_if_eq hX (tgt := 20) dX10_allFor_8 (by decide) (fun hc => ?_) (fun hc => ?_)
  · rw [if_pos hc] at h
    refine j_iconst hX dX10_allFor_20 (rc rfl) ?_
    cases h
    exact j_iret hX hR dX10_allFor_21
  · rw [if_neg hc] at h
    refine j_iload_n hX 2 dX10_allFor_11 rfl rfl ?_
    refine j_iconst hX dX10_allFor_12 (rc rfl) ?_
    refine j_iconst hX dX10_allFor_13 (rc rfl) ?_
    refine j_callSI hX mwX10_in msX10_in wd1326 hyX10_in (by omega) (by decide) ⟨Nat.zero_le _, Nat.zero_le _⟩ dX10_allFor_14 (s_X10_in hfl rfl) npX10_in rfl (Nat.le_of_ble_eq_true rfl) ?_
    refine j_if_ne hX (tgt := 22) dX10_allFor_17 (by decide) (fun hc => ?_) (fun hc => ?_)
    · rw [if_neg hc] at h
      refine j_aload_n hX 0 dX10_allFor_22 rfl rfl ?_
      obtain ⟨S1, h1, h⟩ := bs h
      refine j_callVV hX mwX10_findLeast miX10_findLeast wd1538 cbX10 ty56 hyX10_findLeast (by omega) (by decide) ⟨Nat.zero_le _, Nat.zero_le _⟩ dX10_allFor_23 (s_X10_findLeast hfl hE h1) npX10_findLeast rfl (Nat.le_of_ble_eq_true rfl) ?_
      refine j_bipush hX dX10_allFor_26 (rc rfl) (by decide) ?_
      refine j_istore_n (L' := [(3, vI ((-2))), (0, vR 56), (1, vI (a1)), (2, vI (a2))]) hX dX10_allFor_28 rfl hnl (by decide) rfl ?_
      refine j_iconst hX dX10_allFor_29 (rc rfl) ?_
      refine j_istore (L' := [(4, vI (0)), (3, vI ((-2))), (0, vR 56), (1, vI (a1)), (2, vI (a2))]) hX dX10_allFor_30 hnl (by decide) rfl ?_
      refine j_sub [2, 3, 4, 1, 0] rfl ?_
      refine sl_X10_allFor_32 hX hR hfl hnl hE (fun y6 S5 h => ?_) _ _ _ _ h
      refine j_iload_n hX 1 dX10_allFor_75 rfl rfl ?_
      refine j_if_lt hX (tgt := 84) dX10_allFor_76 (by decide) (fun hc => ?_) (fun hc => ?_)
      · rw [if_pos hc] at h
        refine j_iload_n hX 1 dX10_allFor_84 rfl rfl ?_
        refine j_goto hX (tgt := 92) dX10_allFor_85 (by decide) ?_
        cases h
        exact j_iret hX hR dX10_allFor_92
      · rw [if_neg hc] at h
        refine j_iload_n hX 0 dX10_allFor_79 rfl rfl ?_
        refine j_iconst hX dX10_allFor_80 (rc rfl) ?_
        refine j_icmp_ne hX (tgt := 88) dX10_allFor_81 (by decide) (fun hc => ?_) (fun hc => ?_)
        · rw [if_neg hc] at h
          refine j_iload_n hX 1 dX10_allFor_88 rfl rfl ?_
          obtain ⟨x7, h1, h⟩ := bs h
          refine j_callSI hX mwX10_bitsOf msX10_bitsOf wd1553 hyX10_bitsOf (by omega) (by decide) ⟨Nat.zero_le _, Nat.zero_le _⟩ dX10_allFor_89 (s_X10_bitsOf hfl h1) npX10_bitsOf rfl (Nat.le_of_ble_eq_true rfl) ?_
          cases h
          exact j_iret hX hR dX10_allFor_92
        · rw [if_pos hc] at h
          refine j_iload_n hX 1 dX10_allFor_84 rfl rfl ?_
          refine j_goto hX (tgt := 92) dX10_allFor_85 (by decide) ?_
          cases h
          exact j_iret hX hR dX10_allFor_92
    · rw [if_pos hc] at h
      refine j_iconst hX dX10_allFor_20 (rc rfl) ?_
      cases h
      exact j_iret hX hR dX10_allFor_21
theorem sl_X10_tooDear_18 {X : K0} {B : Nat → Nat} {n : Nat} {E : Mem → Mem} {r : Int} {S' : Mem} (hX : Ctx X cX10_tooDear "TelegramFeelingsModel" 8) (hR : CR X (some .int)) (hfl : (gX X).2.2.2.2 = true) (hnl : X.2.2.2.2.2.2.2.2.2.2.2.2.2.2 = 4) (hE : Lens E PM)  {v1 : Int}  : ∀ (fu : Nat) (v2 : Int) (v3 : Int) (S : Mem), g_X10_tooDear_L18 v1 fu v2 v3 S = some (r, S') → JW X B n 0 0 18 [(0, vR 56), (1, vI (v1)), (2, vI (v2)), (3, vI (v3))] [] (E S) (QM X (QcI (gX X) B n r (E S'))) := by
  intro fu
  induction fu with
  | zero =>
    intro v2 v3 S h
    rw [g_X10_tooDear_L18] at h
    cases h
  | succ fu ih =>
    intro v2 v3 S h
    rw [g_X10_tooDear_L18] at h
    refine j_iload_n hX 3 dX10_tooDear_18 rfl rfl ?_
    refine j_bipush hX dX10_tooDear_19 (rc rfl) (by decide) ?_
    refine j_icmp_ge hX (tgt := 49) dX10_tooDear_21 (by decide) (fun hc => ?_) (fun hc => ?_)
    · rw [if_pos hc] at h
      refine j_bipush hX dX10_tooDear_49 (rc rfl) (by decide) ?_
      refine j_iload_n hX 2 dX10_tooDear_51 rfl rfl ?_
      refine j_iconst hX dX10_tooDear_52 (rc rfl) ?_
      refine j_ixor hX dX10_tooDear_53 ?_
      refine j_iand hX dX10_tooDear_54 ?_
      cases h
      exact j_iret hX hR dX10_tooDear_55
    · rw [if_neg hc] at h
      refine j_aload_n hX 0 dX10_tooDear_24 rfl rfl ?_
      refine j_getS (k := 40) hX hfl cbX10 ty56 (by decide) rfl wd1180 rfl sb56_40 dX10_tooDear_25 ?_
      refine j_iload_n hX 3 dX10_tooDear_28 rfl rfl ?_
      obtain ⟨x3, hv, h⟩ := bs h
      refine j_iald hX hE ty83 pc83 hv dX10_tooDear_29 ?_
      refine j_aload_n hX 0 dX10_tooDear_30 rfl rfl ?_
      refine j_getS (k := 8) hX hfl cbX10 ty56 (by decide) rfl wd1148 rfl sb56_8 dX10_tooDear_31 ?_
      refine j_iload_n hX 1 dX10_tooDear_34 rfl rfl ?_
      obtain ⟨x4, hv, h⟩ := bs h
      refine j_iald hX hE ty62 pc62 hv dX10_tooDear_35 ?_
      refine j_icmp_gt hX (tgt := 43) dX10_tooDear_36 (by decide) (fun hc => ?_) (fun hc => ?_)
      · rw [if_pos hc] at h
        refine j_iinc (L' := [(3, vI (w32 (v3 + 1))), (0, vR 56), (1, vI (v1)), (2, vI (v2))]) hX 3 dX10_tooDear_43 hnl (by decide) rfl rfl ?_
        refine j_goto hX (tgt := 18) dX10_tooDear_46 (by decide) ?_
        refine j_sub [1, 2, 3, 0] rfl ?_
        exact ih _ _ _ h
      · rw [if_neg hc] at h
        refine j_iload_n hX 2 dX10_tooDear_39 rfl rfl ?_
        refine j_iload_n hX 3 dX10_tooDear_40 rfl rfl ?_
        refine j_ior hX dX10_tooDear_41 ?_
        refine j_istore_n (L' := [(2, vI (o_or v2 v3)), (0, vR 56), (1, vI (v1)), (3, vI (v3))]) hX dX10_tooDear_42 rfl hnl (by decide) rfl ?_
        refine j_iinc (L' := [(3, vI (w32 (v3 + 1))), (2, vI (o_or v2 v3)), (0, vR 56), (1, vI (v1))]) hX 3 dX10_tooDear_43 hnl (by decide) rfl rfl ?_
        refine j_goto hX (tgt := 18) dX10_tooDear_46 (by decide) ?_
        refine j_sub [2, 3, 1, 0] rfl ?_
        exact ih _ _ _ h
theorem s_X10_tooDear {g : G0} {B : Nat → Nat} {n : Nat} {E : Mem → Mem} {a1 : Int} {S : Mem} {r : Int} {S' : Mem} (hfl : g.2.2.2.2 = true) (hE : Lens E PM) (h : g_X10_tooDear a1 S = some (r, S')) : Cn g B n yX10_tooDear cX10_tooDear 4 (some .int) 8 [vR 56, vI (a1)] (E S) (QcI g B n r (E S')) := by
  refine Cn.of (by decide +kernel) (Nat.le_of_ble_eq_true rfl) (fun X hg hnl hX hR => ?_)
  subst hg
  have hX : Ctx X cX10_tooDear "TelegramFeelingsModel" 8 := hX
  unfold g_X10_tooDear at h
  show JW X B n 0 0 0 [(0, vR 56), (1, vI (a1))] [] (E S) (QM X (QcI (gX X) B n r (E S')))
  refine j_aload_n hX 0 dX10_tooDear_0 rfl rfl ?_
  refine j_iload_n hX 1 dX10_tooDear_1 rfl rfl ?_
  obtain ⟨x1, h1, h⟩ := bs h
  refine j_callVI hX mwX10_isPerson miX10_isPerson wd1369 cbX10 ty56 hyX10_isPerson (by omega) (by decide) ⟨Nat.zero_le _, Nat.zero_le _⟩ dX10_tooDear_2 (s_X10_isPerson hfl hE h1) npX10_isPerson rfl (Nat.le_of_ble_eq_true rfl) ?_
  refine j_if_ne hX (tgt := 10) dX10_tooDear_5 (by decide) (fun hc => ?_) (fun hc => ?_)
  · rw [if_neg hc] at h
    refine j_aload_n hX 0 dX10_tooDear_10 rfl rfl ?_
    obtain ⟨S2, h1, h⟩ := bs h
    refine j_callVV hX mwX10_findLeast miX10_findLeast wd1538 cbX10 ty56 hyX10_findLeast (by omega) (by decide) ⟨Nat.zero_le _, Nat.zero_le _⟩ dX10_tooDear_11 (s_X10_findLeast hfl hE h1) npX10_findLeast rfl (Nat.le_of_ble_eq_true rfl) ?_
    refine j_iconst hX dX10_tooDear_14 (rc rfl) ?_
    refine j_istore_n (L' := [(2, vI (0)), (0, vR 56), (1, vI (a1))]) hX dX10_tooDear_15 rfl hnl (by decide) rfl ?_
    refine j_iconst hX dX10_tooDear_16 (rc rfl) ?_
    refine j_istore_n (L' := [(3, vI (0)), (2, vI (0)), (0, vR 56), (1, vI (a1))]) hX dX10_tooDear_17 rfl hnl (by decide) rfl ?_
    refine j_sub [2, 3, 1, 0] rfl ?_
    refine sl_X10_tooDear_18 hX hR hfl hnl hE  _ _ _ _ h
  · rw [if_pos hc] at h
    refine j_iconst hX dX10_tooDear_8 (rc rfl) ?_
    cases h
    exact j_iret hX hR dX10_tooDear_9
theorem sl_X10_year_45 {X : K0} {B : Nat → Nat} {n : Nat} {E : Mem → Mem} {r : Int} (hX : Ctx X cX10_year "TelegramFeelingsModel" 3) (hR : CR X (some .int)) (hfl : (gX X).2.2.2.2 = true) (hnl : X.2.2.2.2.2.2.2.2.2.2.2.2.2.2 = 12) (hE : Lens E PM) {k113 : Int → Option Int} {v1 : Int} {v2 : Int} {v3 : Int} {S : Mem} (K113 : ∀ (v5 : Int), k113 v5 = some r → JW X B n 0 0 113 [(0, vR 56), (1, vI (v1)), (2, vI (v2)), (3, vI (v3)), (5, vI (v5))] [] (E S) (QM X (QcI (gX X) B n r (E S)))) : ∀ (fu : Nat) (v5 : Int), g_X10_year_L45 k113 v1 v2 v3 S fu v5 = some r → JW X B n 0 0 45 [(0, vR 56), (1, vI (v1)), (2, vI (v2)), (3, vI (v3)), (5, vI (v5))] [] (E S) (QM X (QcI (gX X) B n r (E S))) := by
  intro fu
  induction fu with
  | zero =>
    intro v5 h
    rw [g_X10_year_L45] at h
    cases h
  | succ fu ih =>
    intro v5 h
    rw [g_X10_year_L45] at h
    refine j_iload hX 4 dX10_year_45 rfl ?_
    refine j_bipush hX dX10_year_47 (rc rfl) (by decide) ?_
    refine j_icmp_ge hX (tgt := 113) dX10_year_49 (by decide) (fun hc => ?_) (fun hc => ?_)
    · rw [if_pos hc] at h
      refine j_sub [0, 1, 2, 3, 4] rfl ?_
      exact K113 _ h
    · rw [if_neg hc] at h
      refine j_iconst hX dX10_year_52 (rc rfl) ?_
      refine j_iload hX 4 dX10_year_53 rfl ?_
      refine j_imul hX dX10_year_55 ?_
      refine j_iconst hX dX10_year_56 (rc rfl) ?_
      refine j_iadd hX dX10_year_57 ?_
      refine j_aload_n hX 0 dX10_year_58 rfl rfl ?_
      refine j_getS (k := 57) hX hfl cbX10 ty56 (by decide) rfl wd1197 rfl sb56_57 dX10_year_59 ?_
      refine j_iload_n hX 1 dX10_year_62 rfl rfl ?_
      obtain ⟨x4, hv, h⟩ := bs h
      refine j_iald hX hE ty94 pc94 hv dX10_year_63 ?_
      refine j_icmp_ge hX (tgt := 113) dX10_year_64 (by decide) (fun hc => ?_) (fun hc => ?_)
      · rw [if_pos hc] at h
        refine j_sub [0, 1, 2, 3, 4] rfl ?_
        exact K113 _ h
      · rw [if_neg hc] at h
        refine j_aload_n hX 0 dX10_year_67 rfl rfl ?_
        refine j_iload_n hX 1 dX10_year_68 rfl rfl ?_
        refine j_iconst hX dX10_year_69 (rc rfl) ?_
        refine j_iload hX 4 dX10_year_70 rfl ?_
        refine j_imul hX dX10_year_72 ?_
        obtain ⟨x5, h1, h⟩ := bs h
        refine j_callVI hX mwX10_at miX10_at wd1483 cbX10 ty56 hyX10_at (by omega) (by decide) ⟨Nat.zero_le _, Nat.zero_le _⟩ dX10_year_73 (s_X10_at hfl hE h1) npX10_at rfl (Nat.le_of_ble_eq_true rfl) ?_
        refine j_iconst hX dX10_year_76 (rc rfl) ?_
        refine j_sipush hX dX10_year_77 (rc rfl) (by decide) ?_
        refine j_callSI hX mwX10_in msX10_in wd1326 hyX10_in (by omega) (by decide) ⟨Nat.zero_le _, Nat.zero_le _⟩ dX10_year_80 (s_X10_in hfl rfl) npX10_in rfl (Nat.le_of_ble_eq_true rfl) ?_
        refine j_if_eq hX (tgt := 113) dX10_year_83 (by decide) (fun hc => ?_) (fun hc => ?_)
        · rw [if_pos hc] at h
          refine j_sub [0, 1, 2, 3, 4] rfl ?_
          exact K113 _ h
        · rw [if_neg hc] at h
          refine j_aload_n hX 0 dX10_year_86 rfl rfl ?_
          refine j_iload_n hX 1 dX10_year_87 rfl rfl ?_
          refine j_iconst hX dX10_year_88 (rc rfl) ?_
          refine j_iload hX 4 dX10_year_89 rfl ?_
          refine j_imul hX dX10_year_91 ?_
          refine j_iconst hX dX10_year_92 (rc rfl) ?_
          refine j_iadd hX dX10_year_93 ?_
          obtain ⟨x6, h1, h⟩ := bs h
          refine j_callVI hX mwX10_at miX10_at wd1483 cbX10 ty56 hyX10_at (by omega) (by decide) ⟨Nat.zero_le _, Nat.zero_le _⟩ dX10_year_94 (s_X10_at hfl hE h1) npX10_at rfl (Nat.le_of_ble_eq_true rfl) ?_
          refine j_iconst hX dX10_year_97 (rc rfl) ?_
          refine j_sipush hX dX10_year_98 (rc rfl) (by decide) ?_
          refine j_callSI hX mwX10_in msX10_in wd1326 hyX10_in (by omega) (by decide) ⟨Nat.zero_le _, Nat.zero_le _⟩ dX10_year_101 (s_X10_in hfl rfl) npX10_in rfl (Nat.le_of_ble_eq_true rfl) ?_
          refine j_if_eq hX (tgt := 113) dX10_year_104 (by decide) (fun hc => ?_) (fun hc => ?_)
          · rw [if_pos hc] at h
            refine j_sub [0, 1, 2, 3, 4] rfl ?_
            exact K113 _ h
          · rw [if_neg hc] at h
            refine j_iinc (L' := [(5, vI (w32 (v5 + 1))), (0, vR 56), (1, vI (v1)), (2, vI (v2)), (3, vI (v3))]) hX 4 dX10_year_107 hnl (by decide) rfl rfl ?_
            refine j_goto hX (tgt := 45) dX10_year_110 (by decide) ?_
            refine j_sub [1, 2, 3, 4, 0] rfl ?_
            exact ih _ h
theorem sl_X10_year_140 {X : K0} {B : Nat → Nat} {n : Nat} {E : Mem → Mem} {r : Int} (hX : Ctx X cX10_year "TelegramFeelingsModel" 3) (hR : CR X (some .int)) (hfl : (gX X).2.2.2.2 = true) (hnl : X.2.2.2.2.2.2.2.2.2.2.2.2.2.2 = 12) (hE : Lens E PM) {k196 : Int → Int → Option Int} {v1 : Int} {v2 : Int} {v3 : Int} {v5 : Int} {v6 : Int} {v7 : Int} {v8 : Int} {S : Mem} (K196 : ∀ (v9 : Int) (v10 : Int), k196 v9 v10 = some r → JW X B n 0 0 196 [(0, vR 56), (1, vI (v1)), (2, vI (v2)), (3, vI (v3)), (5, vI (v5)), (6, vI (v6)), (7, vI (v7)), (8, vI (v8)), (9, vI (v9)), (10, vI (v10))] [] (E S) (QM X (QcI (gX X) B n r (E S)))) : ∀ (fu : Nat) (v9 : Int) (v10 : Int) (v11 : Int), g_X10_year_L140 k196 v1 v2 v3 v5 v6 v7 v8 S fu v9 v10 v11 = some r → JW X B n 0 0 140 [(0, vR 56), (1, vI (v1)), (2, vI (v2)), (3, vI (v3)), (5, vI (v5)), (6, vI (v6)), (7, vI (v7)), (8, vI (v8)), (9, vI (v9)), (10, vI (v10)), (11, vI (v11))] [] (E S) (QM X (QcI (gX X) B n r (E S))) := by
  intro fu
  induction fu with
  | zero =>
    intro v9 v10 v11 h
    rw [g_X10_year_L140] at h
    cases h
  | succ fu ih =>
    intro v9 v10 v11 h
    rw [g_X10_year_L140] at h
    refine j_iload hX 10 dX10_year_140 rfl ?_
    refine j_iload hX 4 dX10_year_142 rfl ?_
    refine j_icmp_ge hX (tgt := 196) dX10_year_144 (by decide) (fun hc => ?_) (fun hc => ?_)
    · rw [if_pos hc] at h
      refine j_sub [0, 1, 2, 3, 4, 5, 6, 7, 8, 9] rfl ?_
      exact K196 _ _ h
    · rw [if_neg hc] at h
      refine j_iload hX 7 dX10_year_147 rfl ?_
      refine j_iload hX 10 dX10_year_149 rfl ?_
      refine j_ishr hX dX10_year_151 ?_
      refine j_iconst hX dX10_year_152 (rc rfl) ?_
      refine j_iand hX dX10_year_153 ?_
      refine j_if_ne hX (tgt := 160) dX10_year_154 (by decide) (fun hc => ?_) (fun hc => ?_)
      · rw [if_neg hc] at h
        refine j_iload hX 8 dX10_year_160 rfl ?_
        refine j_aload_n hX 0 dX10_year_162 rfl rfl ?_
        refine j_iload_n hX 1 dX10_year_163 rfl rfl ?_
        refine j_iconst hX dX10_year_164 (rc rfl) ?_
        refine j_iload hX 10 dX10_year_165 rfl ?_
        refine j_imul hX dX10_year_167 ?_
        obtain ⟨x8, h1, h⟩ := bs h
        refine j_callVI hX mwX10_at miX10_at wd1483 cbX10 ty56 hyX10_at (by omega) (by decide) ⟨Nat.zero_le _, Nat.zero_le _⟩ dX10_year_168 (s_X10_at hfl hE h1) npX10_at rfl (Nat.le_of_ble_eq_true rfl) ?_
        refine j_iadd hX dX10_year_171 ?_
        refine j_istore (L' := [(9, vI (w32 (v9 + x8))), (0, vR 56), (1, vI (v1)), (2, vI (v2)), (3, vI (v3)), (5, vI (v5)), (6, vI (v6)), (7, vI (v7)), (8, vI (v8)), (10, vI (v10)), (11, vI (v11))]) hX dX10_year_172 hnl (by decide) rfl ?_
        refine j_iload hX 9 dX10_year_174 rfl ?_
        refine j_aload_n hX 1 dX10_year_176 rfl rfl ?_
        refine j_iload_n hX 2 dX10_year_177 rfl rfl ?_
        refine j_iconst hX dX10_year_178 (rc rfl) ?_
        refine j_iload hX 10 dX10_year_179 rfl ?_
        refine j_imul hX dX10_year_181 ?_
        refine j_iconst hX dX10_year_182 (rc rfl) ?_
        refine j_iadd hX dX10_year_183 ?_
        obtain ⟨x9, h1, h⟩ := bs h
        refine j_callVI hX mwX10_at miX10_at wd1483 cbX10 ty56 hyX10_at (by omega) (by decide) ⟨Nat.zero_le _, Nat.zero_le _⟩ dX10_year_184 (s_X10_at hfl hE h1) npX10_at rfl (Nat.le_of_ble_eq_true rfl) ?_
        refine j_iadd hX dX10_year_187 ?_
        refine j_istore (L' := [(10, vI (w32 (v10 + x9))), (9, vI (w32 (v9 + x8))), (0, vR 56), (1, vI (v1)), (2, vI (v2)), (3, vI (v3)), (5, vI (v5)), (6, vI (v6)), (7, vI (v7)), (8, vI (v8)), (11, vI (v11))]) hX dX10_year_188 hnl (by decide) rfl ?_
        refine j_iinc (L' := [(11, vI (w32 (v11 + 1))), (10, vI (w32 (v10 + x9))), (9, vI (w32 (v9 + x8))), (0, vR 56), (1, vI (v1)), (2, vI (v2)), (3, vI (v3)), (5, vI (v5)), (6, vI (v6)), (7, vI (v7)), (8, vI (v8))]) hX 10 dX10_year_190 hnl (by decide) rfl rfl ?_
        refine j_goto hX (tgt := 140) dX10_year_193 (by decide) ?_
        refine j_sub [3, 4, 5, 6, 7, 8, 9, 10, 2, 1, 0] rfl ?_
        exact ih _ _ _ h
      · rw [if_pos hc] at h
        refine j_goto hX (tgt := 190) dX10_year_157 (by decide) ?_
        refine j_iinc (L' := [(11, vI (w32 (v11 + 1))), (0, vR 56), (1, vI (v1)), (2, vI (v2)), (3, vI (v3)), (5, vI (v5)), (6, vI (v6)), (7, vI (v7)), (8, vI (v8)), (9, vI (v9)), (10, vI (v10))]) hX 10 dX10_year_190 hnl (by decide) rfl rfl ?_
        refine j_goto hX (tgt := 140) dX10_year_193 (by decide) ?_
        refine j_sub [1, 2, 3, 4, 5, 6, 7, 8, 9, 10, 0] rfl ?_
        exact ih _ _ _ h
theorem sl_X10_year_122 {X : K0} {B : Nat → Nat} {n : Nat} {E : Mem → Mem} {r : Int} (hX : Ctx X cX10_year "TelegramFeelingsModel" 3) (hR : CR X (some .int)) (hfl : (gX X).2.2.2.2 = true) (hnl : X.2.2.2.2.2.2.2.2.2.2.2.2.2.2 = 12) (hE : Lens E PM) {k231 : Int → Int → Option Int} {v1 : Int} {v2 : Int} {v3 : Int} {v5 : Int} {S : Mem} (K231 : ∀ (v6 : Int) (v7 : Int), k231 v6 v7 = some r → JW X B n 0 0 231 [(3, vI (v3)), (6, vI (v6)), (7, vI (v7))] [] (E S) (QM X (QcI (gX X) B n r (E S)))) : ∀ (fu : Nat) (v6 : Int) (v7 : Int) (v8 : Int), g_X10_year_L122 k231 v1 v2 v3 v5 S fu v6 v7 v8 = some r → JW X B n 0 0 122 [(0, vR 56), (1, vI (v1)), (2, vI (v2)), (3, vI (v3)), (5, vI (v5)), (6, vI (v6)), (7, vI (v7)), (8, vI (v8))] [] (E S) (QM X (QcI (gX X) B n r (E S))) := by
  intro fu
  induction fu with
  | zero =>
    intro v6 v7 v8 h
    rw [g_X10_year_L122] at h
    cases h
  | succ fu ih =>
    intro v6 v7 v8 h
    rw [g_X10_year_L122] at h
    refine j_iload hX 7 dX10_year_122 rfl ?_
    refine j_iconst hX dX10_year_124 (rc rfl) ?_
    refine j_iload hX 4 dX10_year_125 rfl ?_
    refine j_ishl hX dX10_year_127 ?_
    refine j_icmp_ge hX (tgt := 231) dX10_year_128 (by decide) (fun hc => ?_) (fun hc => ?_)
    · rw [if_pos hc] at h
      refine j_sub [3, 5, 6] rfl ?_
      exact K231 _ _ h
    · rw [if_neg hc] at h
      refine j_iconst hX dX10_year_131 (rc rfl) ?_
      refine j_istore (L' := [(9, vI (0)), (0, vR 56), (1, vI (v1)), (2, vI (v2)), (3, vI (v3)), (5, vI (v5)), (6, vI (v6)), (7, vI (v7)), (8, vI (v8))]) hX dX10_year_132 hnl (by decide) rfl ?_
      refine j_iconst hX dX10_year_134 (rc rfl) ?_
      refine j_istore (L' := [(10, vI (0)), (9, vI (0)), (0, vR 56), (1, vI (v1)), (2, vI (v2)), (3, vI (v3)), (5, vI (v5)), (6, vI (v6)), (7, vI (v7)), (8, vI (v8))]) hX dX10_year_135 hnl (by decide) rfl ?_
      refine j_iconst hX dX10_year_137 (rc rfl) ?_
      refine j_istore (L' := [(11, vI (0)), (10, vI (0)), (9, vI (0)), (0, vR 56), (1, vI (v1)), (2, vI (v2)), (3, vI (v3)), (5, vI (v5)), (6, vI (v6)), (7, vI (v7)), (8, vI (v8))]) hX dX10_year_138 hnl (by decide) rfl ?_
      refine j_sub [3, 4, 5, 6, 7, 8, 9, 10, 2, 1, 0] rfl ?_
      refine sl_X10_year_140 hX hR hfl hnl hE (fun y10 y11 h => ?_) _ _ _ _ h
      refine j_iload hX 8 dX10_year_196 rfl ?_
      refine j_aload_n hX 0 dX10_year_198 rfl rfl ?_
      refine j_getS (k := 8) hX hfl cbX10 ty56 (by decide) rfl wd1148 rfl sb56_8 dX10_year_199 ?_
      refine j_iload_n hX 2 dX10_year_202 rfl rfl ?_
      obtain ⟨x12, hv, h⟩ := bs h
      refine j_iald hX hE ty62 pc62 hv dX10_year_203 ?_
      refine j_icmp_gt hX (tgt := 225) dX10_year_204 (by decide) (fun hc => ?_) (fun hc => ?_)
      · rw [if_pos hc] at h
        refine j_iinc (L' := [(8, vI (w32 (v8 + 1))), (0, vR 56), (1, vI (v1)), (2, vI (v2)), (3, vI (v3)), (5, vI (v5)), (6, vI (v6)), (7, vI (v7)), (9, vI (y10)), (10, vI (y11))]) hX 7 dX10_year_225 hnl (by decide) rfl rfl ?_
        refine j_goto hX (tgt := 122) dX10_year_228 (by decide) ?_
        refine j_sub [1, 2, 3, 4, 5, 6, 7, 0] rfl ?_
        exact ih _ _ _ h
      · rw [if_neg hc] at h
        refine j_iload hX 9 dX10_year_207 rfl ?_
        refine j_iload hX 6 dX10_year_209 rfl ?_
        refine j_icmp_gt hX (tgt := 217) dX10_year_211 (by decide) (fun hc => ?_) (fun hc => ?_)
        · rw [if_pos hc] at h
          refine j_iload hX 7 dX10_year_217 rfl ?_
          refine j_istore (L' := [(6, vI (v8)), (0, vR 56), (1, vI (v1)), (2, vI (v2)), (3, vI (v3)), (5, vI (v5)), (7, vI (v7)), (8, vI (v8)), (9, vI (y10)), (10, vI (y11))]) hX dX10_year_219 hnl (by decide) rfl ?_
          refine j_iload hX 9 dX10_year_221 rfl ?_
          refine j_istore (L' := [(7, vI (y11)), (6, vI (v8)), (0, vR 56), (1, vI (v1)), (2, vI (v2)), (3, vI (v3)), (5, vI (v5)), (8, vI (v8)), (9, vI (y10)), (10, vI (y11))]) hX dX10_year_223 hnl (by decide) rfl ?_
          refine j_iinc (L' := [(8, vI (w32 (v8 + 1))), (7, vI (y11)), (6, vI (v8)), (0, vR 56), (1, vI (v1)), (2, vI (v2)), (3, vI (v3)), (5, vI (v5)), (9, vI (y10)), (10, vI (y11))]) hX 7 dX10_year_225 hnl (by decide) rfl rfl ?_
          refine j_goto hX (tgt := 122) dX10_year_228 (by decide) ?_
          refine j_sub [3, 4, 5, 6, 7, 2, 1, 0] rfl ?_
          exact ih _ _ _ h
        · rw [if_neg hc] at h
          refine j_goto hX (tgt := 225) dX10_year_214 (by decide) ?_
          refine j_iinc (L' := [(8, vI (w32 (v8 + 1))), (0, vR 56), (1, vI (v1)), (2, vI (v2)), (3, vI (v3)), (5, vI (v5)), (6, vI (v6)), (7, vI (v7)), (9, vI (y10)), (10, vI (y11))]) hX 7 dX10_year_225 hnl (by decide) rfl rfl ?_
          refine j_goto hX (tgt := 122) dX10_year_228 (by decide) ?_
          refine j_sub [1, 2, 3, 4, 5, 6, 7, 0] rfl ?_
          exact ih _ _ _ h
theorem s_X10_year {g : G0} {B : Nat → Nat} {n : Nat} {E : Mem → Mem} {a1 : Int} {a2 : Int} {a3 : Int} {S : Mem} {r : Int} (hfl : g.2.2.2.2 = true) (hE : Lens E PM) (h : g_X10_year a1 a2 a3 S = some r) : Cn g B n yX10_year cX10_year 12 (some .int) 3 [vR 56, vI (a1), vI (a2), vI (a3)] (E S) (QcI g B n r (E S)) := by
  refine Cn.of (by decide +kernel) (Nat.le_of_ble_eq_true rfl) (fun X hg hnl hX hR => ?_)
  subst hg
  have hX : Ctx X cX10_year "TelegramFeelingsModel" 3 := hX
  unfold g_X10_year at h
  show JW X B n 0 0 0 [(0, vR 56), (1, vI (a1)), (2, vI (a2)), (3, vI (a3))] [] (E S) (QM X (QcI (gX X) B n r (E S)))
  refine j_iload_n hX 1 dX10_year_0 rfl rfl ?_
  obtain ⟨x1, h1, h⟩ := bs h
  refine j_callSI hX mwX10_isShelf msX10_isShelf wd1337 hyX10_isShelf (by omega) (by decide) ⟨Nat.zero_le _, Nat.zero_le _⟩ dX10_year_1 (s_X10_isShelf hfl h1) npX10_isShelf rfl (Nat.le_of_ble_eq_true rfl) ?_
  refine j_if_eq hX (tgt := 24) dX10_year_4 (by decide) (fun hc => ?_) (fun hc => ?_)
  · rw [if_pos hc] at h
    refine j_iconst hX dX10_year_24 (rc rfl) ?_
    cases h
    exact j_iret hX hR dX10_year_25
  · rw [if_neg hc] at h
    refine j_aload_n hX 0 dX10_year_7 rfl rfl ?_
    refine j_iload_n hX 2 dX10_year_8 rfl rfl ?_
    obtain ⟨x2, h1, h⟩ := bs h
    refine j_callVI hX mwX10_isPerson miX10_isPerson wd1369 cbX10 ty56 hyX10_isPerson (by omega) (by decide) ⟨Nat.zero_le _, Nat.zero_le _⟩ dX10_year_9 (s_X10_isPerson hfl hE h1) npX10_isPerson rfl (Nat.le_of_ble_eq_true rfl) ?_
    refine j_if_eq hX (tgt := 24) dX10_year_12 (by decide) (fun hc => ?_) (fun hc => ?_)
    · rw [if_pos hc] at h
      refine j_iconst hX dX10_year_24 (rc rfl) ?_
      cases h
      exact j_iret hX hR dX10_year_25
    · rw [if_neg hc] at h
      refine j_iload_n hX 3 dX10_year_15 rfl rfl ?_
      refine j_iconst hX dX10_year_16 (rc rfl) ?_
      refine j_iconst hX dX10_year_17 (rc rfl) ?_
      refine j_callSI hX mwX10_in msX10_in wd1326 hyX10_in (by omega) (by decide) ⟨Nat.zero_le _, Nat.zero_le _⟩ dX10_year_18 (s_X10_in hfl rfl) npX10_in rfl (Nat.le_of_ble_eq_true rfl) ?_
      refine j_if_ne hX (tgt := 26) dX10_year_21 (by decide) (fun hc => ?_) (fun hc => ?_)
      · rw [if_neg hc] at h
        refine j_aload_n hX 0 dX10_year_26 rfl rfl ?_
        refine j_iload_n hX 1 dX10_year_27 rfl rfl ?_
        refine j_iconst hX dX10_year_28 (rc rfl) ?_
        obtain ⟨x3, h1, h⟩ := bs h
        refine j_callVI hX mwX10_rowFault miX10_rowFault wd1475 cbX10 ty56 hyX10_rowFault (by omega) (by decide) ⟨Nat.zero_le _, Nat.zero_le _⟩ dX10_year_29 (s_X10_rowFault hfl hE h1) npX10_rowFault rfl (Nat.le_of_ble_eq_true rfl) ?_
        refine j_istore (L' := [(4, vI (x3)), (0, vR 56), (1, vI (a1)), (2, vI (a2)), (3, vI (a3))]) hX dX10_year_32 hnl (by decide) rfl ?_
        refine j_iload hX 0 dX10_year_34 rfl ?_
        refine j_if_ge hX (tgt := 42) dX10_year_36 (by decide) (fun hc => ?_) (fun hc => ?_)
        · rw [if_pos hc] at h
          refine j_iconst hX dX10_year_42 (rc rfl) ?_
          refine j_istore (L' := [(5, vI (0)), (4, vI (x3)), (0, vR 56), (1, vI (a1)), (2, vI (a2)), (3, vI (a3))]) hX dX10_year_43 hnl (by decide) rfl ?_
          refine j_sub [2, 3, 4, 5, 0] rfl ?_
          refine sl_X10_year_45 hX hR hfl hnl hE (fun y7 h => ?_) _ _ h
          refine j_iconst hX dX10_year_113 (rc rfl) ?_
          refine j_istore (L' := [(6, vI (0)), (0, vR 56), (1, vI (a1)), (2, vI (a2)), (3, vI (a3)), (5, vI (y7))]) hX dX10_year_114 hnl (by decide) rfl ?_
          refine j_iconst hX dX10_year_116 (rc rfl) ?_
          refine j_istore (L' := [(7, vI (0)), (6, vI (0)), (0, vR 56), (1, vI (a1)), (2, vI (a2)), (3, vI (a3)), (5, vI (y7))]) hX dX10_year_117 hnl (by decide) rfl ?_
          refine j_iconst hX dX10_year_119 (rc rfl) ?_
          refine j_istore (L' := [(8, vI (1)), (7, vI (0)), (6, vI (0)), (0, vR 56), (1, vI (a1)), (2, vI (a2)), (3, vI (a3)), (5, vI (y7))]) hX dX10_year_120 hnl (by decide) rfl ?_
          refine j_sub [3, 4, 5, 6, 7, 2, 1, 0] rfl ?_
          refine sl_X10_year_122 hX hR hfl hnl hE (fun y13 y14 h => ?_) _ _ _ _ h
          refine j_iload_n hX 0 dX10_year_231 rfl rfl ?_
          refine j_if_ne hX (tgt := 240) dX10_year_232 (by decide) (fun hc => ?_) (fun hc => ?_)
          · rw [if_neg hc] at h
            refine j_iload hX 1 dX10_year_240 rfl ?_
            cases h
            exact j_iret hX hR dX10_year_242
          · rw [if_pos hc] at h
            refine j_iload hX 2 dX10_year_235 rfl ?_
            refine j_goto hX (tgt := 242) dX10_year_237 (by decide) ?_
            cases h
            exact j_iret hX hR dX10_year_242
        · rw [if_neg hc] at h
          refine j_iload hX 0 dX10_year_39 rfl ?_
          cases h
          exact j_iret hX hR dX10_year_41
      · rw [if_pos hc] at h
        refine j_iconst hX dX10_year_24 (rc rfl) ?_
        cases h
        exact j_iret hX hR dX10_year_25
theorem s_X10_errAt {g : G0} {B : Nat → Nat} {n : Nat} {M : Mem} {a1 : Int} {a2 : Int} {a3 : Int} {a4 : Int} {r : Int} (hfl : g.2.2.2.2 = true) (h : g_X10_errAt a1 a2 a3 a4 = r) : Cn g B n yX10_errAt cX10_errAt 4 (some .int) 1 [vI (a1), vI (a2), vI (a3), vI (a4)] M (QcI g B n r M) := by
  refine Cn.of (by decide +kernel) (Nat.le_of_ble_eq_true rfl) (fun X hg hnl hX hR => ?_)
  subst hg
  have hX : Ctx X cX10_errAt "TelegramFeelingsModel" 1 := hX
  unfold g_X10_errAt at h
  show JW X B n 0 0 0 [(0, vI (a1)), (1, vI (a2)), (2, vI (a3)), (3, vI (a4))] [] (M) (QM X (QcI (gX X) B n r M))
  refine j_iload_n hX 0 dX10_errAt_0 rfl rfl ?_
  refine j_iconst hX dX10_errAt_1 (rc rfl) ?_
  refine j_imul hX dX10_errAt_2 ?_
  refine j_iload_n hX 1 dX10_errAt_3 rfl rfl ?_
  refine j_iadd hX dX10_errAt_4 ?_
  refine j_iconst hX dX10_errAt_5 (rc rfl) ?_
  refine j_imul hX dX10_errAt_6 ?_
  refine j_iload_n hX 2 dX10_errAt_7 rfl rfl ?_
  refine j_iadd hX dX10_errAt_8 ?_
  refine j_iconst hX dX10_errAt_9 (rc rfl) ?_
  refine j_imul hX dX10_errAt_10 ?_
  refine j_iload_n hX 3 dX10_errAt_11 rfl rfl ?_
  refine j_iadd hX dX10_errAt_12 ?_
  subst h
  exact j_iret hX hR dX10_errAt_13
theorem s_X10_weightOf {g : G0} {B : Nat → Nat} {n : Nat} {E : Mem → Mem} {a1 : Int} {a2 : Int} {S : Mem} {r : Int} (hfl : g.2.2.2.2 = true) (hE : Lens E PM) (h : g_X10_weightOf a1 a2 S = some r) : Cn g B n yX10_weightOf cX10_weightOf 4 (some .int) 1 [vR 56, vI (a1), vI (a2)] (E S) (QcI g B n r (E S)) := by
  refine Cn.of (by decide +kernel) (Nat.le_of_ble_eq_true rfl) (fun X hg hnl hX hR => ?_)
  subst hg
  have hX : Ctx X cX10_weightOf "TelegramFeelingsModel" 1 := hX
  unfold g_X10_weightOf at h
  show JW X B n 0 0 0 [(0, vR 56), (1, vI (a1)), (2, vI (a2))] [] (E S) (QM X (QcI (gX X) B n r (E S)))
  refine j_aload_n hX 0 dX10_weightOf_0 rfl rfl ?_
  refine j_getS (k := 6) hX hfl cbX10 ty56 (by decide) rfl wd1146 rfl sb56_6 dX10_weightOf_1 ?_
  refine j_iload_n hX 1 dX10_weightOf_4 rfl rfl ?_
  obtain ⟨x1, hv, h⟩ := bs h
  refine j_iald hX hE ty61 pc61 hv dX10_weightOf_5 ?_
  refine j_iload_n hX 2 dX10_weightOf_6 rfl rfl ?_
  refine j_icmp_ne hX (tgt := 19) dX10_weightOf_7 (by decide) (fun hc => ?_) (fun hc => ?_)
  · rw [if_neg hc] at h
    refine j_iconst hX dX10_weightOf_19 (rc rfl) ?_
    refine j_istore_n (L' := [(3, vI (0)), (0, vR 56), (1, vI (a1)), (2, vI (a2))]) hX dX10_weightOf_20 rfl hnl (by decide) rfl ?_
    refine j_iload_n hX 2 dX10_weightOf_21 rfl rfl ?_
    refine j_iload_n hX 3 dX10_weightOf_22 rfl rfl ?_
    refine j_icmp_ne hX (tgt := 40) dX10_weightOf_23 (by decide) (fun hc => ?_) (fun hc => ?_)
    · rw [if_neg hc] at h
      refine j_iload_n hX 0 dX10_weightOf_40 rfl rfl ?_
      cases h
      exact j_iret hX hR dX10_weightOf_41
    · rw [if_pos hc] at h
      refine j_iload_n hX 0 dX10_weightOf_26 rfl rfl ?_
      refine j_bipush hX dX10_weightOf_27 (rc rfl) (by decide) ?_
      refine j_iadd hX dX10_weightOf_29 ?_
      refine j_aload_n hX 1 dX10_weightOf_30 rfl rfl ?_
      refine j_getS (k := 10) hX hfl cbX10 ty56 (by decide) rfl wd1150 rfl sb56_10 dX10_weightOf_31 ?_
      refine j_iconst hX dX10_weightOf_34 (rc rfl) ?_
      refine j_iald hX hE ty64 pc64 (ldk_c (k := 1) (by decide)) dX10_weightOf_35 ?_
      refine j_isub hX dX10_weightOf_36 ?_
      refine j_goto hX (tgt := 41) dX10_weightOf_37 (by decide) ?_
      cases h
      exact j_iret hX hR dX10_weightOf_41
  · rw [if_pos hc] at h
    refine j_aload_n hX 0 dX10_weightOf_10 rfl rfl ?_
    refine j_getS (k := 10) hX hfl cbX10 ty56 (by decide) rfl wd1150 rfl sb56_10 dX10_weightOf_11 ?_
    refine j_iconst hX dX10_weightOf_14 (rc rfl) ?_
    refine j_iald hX hE ty64 pc64 (ldk_c (k := 1) (by decide)) dX10_weightOf_15 ?_
    refine j_goto hX (tgt := 20) dX10_weightOf_16 (by decide) ?_
    refine j_istore_n (L' := [(3, vI (gI S 64 1)), (0, vR 56), (1, vI (a1)), (2, vI (a2))]) hX dX10_weightOf_20 rfl hnl (by decide) rfl ?_
    refine j_iload_n hX 2 dX10_weightOf_21 rfl rfl ?_
    refine j_iload_n hX 3 dX10_weightOf_22 rfl rfl ?_
    refine j_icmp_ne hX (tgt := 40) dX10_weightOf_23 (by decide) (fun hc => ?_) (fun hc => ?_)
    · rw [if_neg hc] at h
      refine j_iload_n hX 0 dX10_weightOf_40 rfl rfl ?_
      cases h
      exact j_iret hX hR dX10_weightOf_41
    · rw [if_pos hc] at h
      refine j_iload_n hX 0 dX10_weightOf_26 rfl rfl ?_
      refine j_bipush hX dX10_weightOf_27 (rc rfl) (by decide) ?_
      refine j_iadd hX dX10_weightOf_29 ?_
      refine j_aload_n hX 1 dX10_weightOf_30 rfl rfl ?_
      refine j_getS (k := 10) hX hfl cbX10 ty56 (by decide) rfl wd1150 rfl sb56_10 dX10_weightOf_31 ?_
      refine j_iconst hX dX10_weightOf_34 (rc rfl) ?_
      refine j_iald hX hE ty64 pc64 (ldk_c (k := 1) (by decide)) dX10_weightOf_35 ?_
      refine j_isub hX dX10_weightOf_36 ?_
      refine j_goto hX (tgt := 41) dX10_weightOf_37 (by decide) ?_
      cases h
      exact j_iret hX hR dX10_weightOf_41
theorem s_X10_seenBy {g : G0} {B : Nat → Nat} {n : Nat} {E : Mem → Mem} {a1 : Int} {a2 : Int} {S : Mem} {r : Int} (hfl : g.2.2.2.2 = true) (hE : Lens E PM) (h : g_X10_seenBy a1 a2 S = some r) : Cn g B n yX10_seenBy cX10_seenBy 3 (some .int) 1 [vR 56, vI (a1), vI (a2)] (E S) (QcI g B n r (E S)) := by
  refine Cn.of (by decide +kernel) (Nat.le_of_ble_eq_true rfl) (fun X hg hnl hX hR => ?_)
  subst hg
  have hX : Ctx X cX10_seenBy "TelegramFeelingsModel" 1 := hX
  unfold g_X10_seenBy at h
  show JW X B n 0 0 0 [(0, vR 56), (1, vI (a1)), (2, vI (a2))] [] (E S) (QM X (QcI (gX X) B n r (E S)))
  refine j_aload_n hX 0 dX10_seenBy_0 rfl rfl ?_
  refine j_getI (k := 44) hX hE cbX10 ty56 pc56 (by decide) rfl wd1184 rfl dX10_seenBy_1 ?_
  refine j_if_lt hX (tgt := 28) dX10_seenBy_4 (by decide) (fun hc => ?_) (fun hc => ?_)
  · rw [if_pos hc] at h
    refine j_iload_n hX 2 dX10_seenBy_28 rfl rfl ?_
    cases h
    exact j_iret hX hR dX10_seenBy_29
  · rw [if_neg hc] at h
    refine j_aload_n hX 0 dX10_seenBy_7 rfl rfl ?_
    refine j_getS (k := 3) hX hfl cbX10 ty56 (by decide) rfl wd1143 rfl sb56_3 dX10_seenBy_8 ?_
    refine j_iload_n hX 1 dX10_seenBy_11 rfl rfl ?_
    obtain ⟨x1, hv, h⟩ := bs h
    refine j_iald hX hE ty58 pc58 hv dX10_seenBy_12 ?_
    refine j_aload_n hX 0 dX10_seenBy_13 rfl rfl ?_
    refine j_getI (k := 44) hX hE cbX10 ty56 pc56 (by decide) rfl wd1184 rfl dX10_seenBy_14 ?_
    refine j_ishr hX dX10_seenBy_17 ?_
    refine j_iconst hX dX10_seenBy_18 (rc rfl) ?_
    refine j_iand hX dX10_seenBy_19 ?_
    refine j_iconst hX dX10_seenBy_20 (rc rfl) ?_
    refine j_icmp_ne hX (tgt := 28) dX10_seenBy_21 (by decide) (fun hc => ?_) (fun hc => ?_)
    · rw [if_neg hc] at h
      refine j_iload_n hX 2 dX10_seenBy_28 rfl rfl ?_
      cases h
      exact j_iret hX hR dX10_seenBy_29
    · rw [if_pos hc] at h
      refine j_iconst hX dX10_seenBy_24 (rc rfl) ?_
      refine j_goto hX (tgt := 29) dX10_seenBy_25 (by decide) ?_
      cases h
      exact j_iret hX hR dX10_seenBy_29
theorem s_X10_nextAt {g : G0} {B : Nat → Nat} {n : Nat} {E : Mem → Mem} {a1 : Int} {a2 : Int} {a3 : Int} {a4 : Int} {S : Mem} {r : Int} (hfl : g.2.2.2.2 = true) (hE : Lens E PM) (h : g_X10_nextAt a1 a2 a3 a4 S = some r) : Cn g B n yX10_nextAt cX10_nextAt 5 (some .int) 2 [vR 56, vI (a1), vI (a2), vI (a3), vI (a4)] (E S) (QcI g B n r (E S)) := by
  refine Cn.of (by decide +kernel) (Nat.le_of_ble_eq_true rfl) (fun X hg hnl hX hR => ?_)
  subst hg
  have hX : Ctx X cX10_nextAt "TelegramFeelingsModel" 2 := hX
  unfold g_X10_nextAt at h
  show JW X B n 0 0 0 [(0, vR 56), (1, vI (a1)), (2, vI (a2)), (3, vI (a3)), (4, vI (a4))] [] (E S) (QM X (QcI (gX X) B n r (E S)))
  refine j_iload_n hX 1 dX10_nextAt_0 rfl rfl ?_
  refine j_iconst hX dX10_nextAt_1 (rc rfl) ?_
  refine j_iadd hX dX10_nextAt_2 ?_
  refine j_aload_n hX 0 dX10_nextAt_3 rfl rfl ?_
  refine j_getS (k := 4) hX hfl cbX10 ty56 (by decide) rfl wd1144 rfl sb56_4 dX10_nextAt_4 ?_
  refine j_iload_n hX 2 dX10_nextAt_7 rfl rfl ?_
  obtain ⟨x1, hv, h⟩ := bs h
  refine j_iald hX hE ty59 pc59 hv dX10_nextAt_8 ?_
  refine j_aload_n hX 0 dX10_nextAt_9 rfl rfl ?_
  refine j_getS (k := 4) hX hfl cbX10 ty56 (by decide) rfl wd1144 rfl sb56_4 dX10_nextAt_10 ?_
  refine j_iload_n hX 2 dX10_nextAt_13 rfl rfl ?_
  obtain ⟨x2, hv, h⟩ := bs h
  refine j_iald hX hE ty59 pc59 hv dX10_nextAt_14 ?_
  refine j_iconst hX dX10_nextAt_15 (rc rfl) ?_
  refine j_icmp_ne hX (tgt := 23) dX10_nextAt_16 (by decide) (fun hc => ?_) (fun hc => ?_)
  · rw [if_neg hc] at h
    refine j_iload_n hX 3 dX10_nextAt_23 rfl rfl ?_
    refine j_aload_n hX 0 dX10_nextAt_24 rfl rfl ?_
    refine j_iload_n hX 2 dX10_nextAt_25 rfl rfl ?_
    refine j_iload hX 4 dX10_nextAt_26 rfl ?_
    obtain ⟨x3, h1, h⟩ := bs h
    refine j_callVI hX mwX10_seenBy miX10_seenBy wd1592 cbX10 ty56 hyX10_seenBy (by omega) (by decide) ⟨Nat.zero_le _, Nat.zero_le _⟩ dX10_nextAt_28 (s_X10_seenBy hfl hE h1) npX10_seenBy rfl (Nat.le_of_ble_eq_true rfl) ?_
    refine j_callSI hX mwX10_errAt msX10_errAt wd1577 hyX10_errAt (by omega) (by decide) ⟨Nat.zero_le _, Nat.zero_le _⟩ dX10_nextAt_31 (s_X10_errAt hfl rfl) npX10_errAt rfl (Nat.le_of_ble_eq_true rfl) ?_
    cases h
    exact j_iret hX hR dX10_nextAt_34
  · rw [if_pos hc] at h
    refine j_iconst hX dX10_nextAt_19 (rc rfl) ?_
    refine j_goto hX (tgt := 24) dX10_nextAt_20 (by decide) ?_
    refine j_aload_n hX 0 dX10_nextAt_24 rfl rfl ?_
    refine j_iload_n hX 2 dX10_nextAt_25 rfl rfl ?_
    refine j_iload hX 4 dX10_nextAt_26 rfl ?_
    obtain ⟨x4, h1, h⟩ := bs h
    refine j_callVI hX mwX10_seenBy miX10_seenBy wd1592 cbX10 ty56 hyX10_seenBy (by omega) (by decide) ⟨Nat.zero_le _, Nat.zero_le _⟩ dX10_nextAt_28 (s_X10_seenBy hfl hE h1) npX10_seenBy rfl (Nat.le_of_ble_eq_true rfl) ?_
    refine j_callSI hX mwX10_errAt msX10_errAt wd1577 hyX10_errAt (by omega) (by decide) ⟨Nat.zero_le _, Nat.zero_le _⟩ dX10_nextAt_31 (s_X10_errAt hfl rfl) npX10_errAt rfl (Nat.le_of_ble_eq_true rfl) ?_
    cases h
    exact j_iret hX hR dX10_nextAt_34
theorem sl_X10_findPlace_12 {X : K0} {B : Nat → Nat} {n : Nat} {E : Mem → Mem} {S' : Mem} (hX : Ctx X cX10_findPlace "TelegramFeelingsModel" 3) (hR : CR X none) (hfl : (gX X).2.2.2.2 = true) (hnl : X.2.2.2.2.2.2.2.2.2.2.2.2.2.2 = 14) (hE : Lens E PM) {k133 : Int → Int → Int → Mem → Option Mem} {v1 : Int} {v2 : Int} {v3 : Int} {v4 : Int} (K133 : ∀ (v5 : Int) (v7 : Int) (v9 : Int) (S : Mem), k133 v5 v7 v9 S = some S' → JW X B n 0 0 133 [(0, vR 56), (1, vI (v1)), (2, vI (v2)), (3, vI (v3)), (4, vI (v4)), (5, vL (v5)), (7, vL (v7)), (9, vL (v9))] [] (E S) (QM X (QcV (gX X) B n (E S')))) : ∀ (fu : Nat) (v5 : Int) (v7 : Int) (v9 : Int) (v11 : Int) (S : Mem), g_X10_findPlace_L12 k133 v1 v2 v3 v4 fu v5 v7 v9 v11 S = some S' → JW X B n 0 0 12 [(0, vR 56), (1, vI (v1)), (2, vI (v2)), (3, vI (v3)), (4, vI (v4)), (5, vL (v5)), (7, vL (v7)), (9, vL (v9)), (11, vI (v11))] [] (E S) (QM X (QcV (gX X) B n (E S'))) := by
  intro fu
  induction fu with
  | zero =>
    intro v5 v7 v9 v11 S h
    rw [g_X10_findPlace_L12] at h
    cases h
  | succ fu ih =>
    intro v5 v7 v9 v11 S h
    rw [g_X10_findPlace_L12] at h
    refine j_iload hX 8 dX10_findPlace_12 rfl ?_
    refine j_aload_n hX 0 dX10_findPlace_14 rfl rfl ?_
    refine j_getI (k := 1) hX hE cbX10 ty56 pc56 (by decide) rfl wd1141 rfl dX10_findPlace_15 ?_
    refine j_icmp_ge hX (tgt := 133) dX10_findPlace_18 (by decide) (fun hc => ?_) (fun hc => ?_)
    · rw [if_pos hc] at h
      refine j_sub [0, 1, 2, 3, 4, 5, 6, 7] rfl ?_
      exact K133 _ _ _ _ h
    · rw [if_neg hc] at h
      refine j_aload_n hX 0 dX10_findPlace_21 rfl rfl ?_
      refine j_iload hX 8 dX10_findPlace_22 rfl ?_
      refine j_aload_n hX 0 dX10_findPlace_24 rfl rfl ?_
      refine j_getS (k := 31) hX hfl cbX10 ty56 (by decide) rfl wd1171 rfl sb56_31 dX10_findPlace_25 ?_
      refine j_iload_n hX 1 dX10_findPlace_28 rfl rfl ?_
      obtain ⟨x1, hv, h⟩ := bs h
      refine j_iald hX hE ty77 pc77 hv dX10_findPlace_29 ?_
      obtain ⟨x2, h1, h⟩ := bs h
      refine j_callVI hX mwX10_weightOf miX10_weightOf wd1584 cbX10 ty56 hyX10_weightOf (by omega) (by decide) ⟨Nat.zero_le _, Nat.zero_le _⟩ dX10_findPlace_30 (s_X10_weightOf hfl hE h1) npX10_weightOf rfl (Nat.le_of_ble_eq_true rfl) ?_
      refine j_istore (L' := [(12, vI (x2)), (0, vR 56), (1, vI (v1)), (2, vI (v2)), (3, vI (v3)), (4, vI (v4)), (5, vL (v5)), (7, vL (v7)), (9, vL (v9)), (11, vI (v11))]) hX dX10_findPlace_33 hnl (by decide) rfl ?_
      refine j_iload hX 0 dX10_findPlace_35 rfl ?_
      refine j_if_eq hX (tgt := 127) dX10_findPlace_37 (by decide) (fun hc => ?_) (fun hc => ?_)
      · rw [if_pos hc] at h
        refine j_iinc (L' := [(11, vI (w32 (v11 + 1))), (12, vI (x2)), (0, vR 56), (1, vI (v1)), (2, vI (v2)), (3, vI (v3)), (4, vI (v4)), (5, vL (v5)), (7, vL (v7)), (9, vL (v9))]) hX 9 dX10_findPlace_127 hnl (by decide) rfl rfl ?_
        refine j_goto hX (tgt := 12) dX10_findPlace_130 (by decide) ?_
        refine j_sub [2, 3, 4, 5, 6, 7, 8, 9, 0] rfl ?_
        exact ih _ _ _ _ _ h
      · rw [if_neg hc] at h
        refine j_aload_n hX 1 dX10_findPlace_40 rfl rfl ?_
        refine j_getS (k := 4) hX hfl cbX10 ty56 (by decide) rfl wd1144 rfl sb56_4 dX10_findPlace_41 ?_
        refine j_iload hX 9 dX10_findPlace_44 rfl ?_
        obtain ⟨x3, hv, h⟩ := bs h
        refine j_iald hX hE ty59 pc59 hv dX10_findPlace_46 ?_
        refine j_iload_n hX 3 dX10_findPlace_47 rfl rfl ?_
        refine j_callSI hX mwX10_mayStand msX10_mayStand wd1512 hyX10_mayStand (by omega) (by decide) ⟨Nat.zero_le _, Nat.zero_le _⟩ dX10_findPlace_48 (s_X10_mayStand hfl rfl) npX10_mayStand rfl (Nat.le_of_ble_eq_true rfl) ?_
        refine j_if_ne hX (tgt := 57) dX10_findPlace_51 (by decide) (fun hc => ?_) (fun hc => ?_)
        · rw [if_neg hc] at h
          refine j_aload_n hX 1 dX10_findPlace_57 rfl rfl ?_
          refine j_iload_n hX 2 dX10_findPlace_58 rfl rfl ?_
          refine j_iload hX 9 dX10_findPlace_59 rfl ?_
          refine j_iload_n hX 4 dX10_findPlace_61 rfl rfl ?_
          refine j_iload hX 5 dX10_findPlace_62 rfl ?_
          obtain ⟨x4, h1, h⟩ := bs h
          refine j_callVI hX mwX10_nextAt miX10_nextAt wd1588 cbX10 ty56 hyX10_nextAt (by omega) (by decide) ⟨Nat.zero_le _, Nat.zero_le _⟩ dX10_findPlace_64 (s_X10_nextAt hfl hE h1) npX10_nextAt rfl (Nat.le_of_ble_eq_true rfl) ?_
          refine j_istore (L' := [(13, vI (x4)), (12, vI (x2)), (0, vR 56), (1, vI (v1)), (2, vI (v2)), (3, vI (v3)), (4, vI (v4)), (5, vL (v5)), (7, vL (v7)), (9, vL (v9)), (11, vI (v11))]) hX dX10_findPlace_67 hnl (by decide) rfl ?_
          refine j_lload hX 7 dX10_findPlace_69 rfl ?_
          refine j_aload_n hX 2 dX10_findPlace_71 rfl rfl ?_
          refine j_getS (k := 41) hX hfl cbX10 ty56 (by decide) rfl wd1181 rfl sb56_41 dX10_findPlace_72 ?_
          refine j_iload hX 0 dX10_findPlace_75 rfl ?_
          obtain ⟨x5, hv, h⟩ := bs h
          refine j_lald hX hE ty84 pc84 hv dX10_findPlace_77 ?_
          refine j_ladd hX dX10_findPlace_78 ?_
          refine j_lstore (L' := [(5, vL (w64 (v5 + x5))), (13, vI (x4)), (12, vI (x2)), (0, vR 56), (1, vI (v1)), (2, vI (v2)), (3, vI (v3)), (4, vI (v4)), (7, vL (v7)), (9, vL (v9)), (11, vI (v11))]) hX dX10_findPlace_79 hnl (by decide) rfl ?_
          refine j_lload hX 8 dX10_findPlace_81 rfl ?_
          refine j_iload hX 2 dX10_findPlace_83 rfl ?_
          refine j_i2l hX dX10_findPlace_85 ?_
          refine j_aload_n hX 3 dX10_findPlace_86 rfl rfl ?_
          refine j_getS (k := 42) hX hfl cbX10 ty56 (by decide) rfl wd1182 rfl sb56_42 dX10_findPlace_87 ?_
          refine j_iload hX 1 dX10_findPlace_90 rfl ?_
          obtain ⟨x6, hv, h⟩ := bs h
          refine j_lald hX hE ty85 pc85 hv dX10_findPlace_92 ?_
          refine j_lmul hX dX10_findPlace_93 ?_
          refine j_ladd hX dX10_findPlace_94 ?_
          obtain ⟨x7, hx, h⟩ := ap_s h
          rw [← hx]
          clear hx
          refine j_lstore (L' := [(7, vL (x7)), (5, vL (w64 (v5 + x5))), (13, vI (x4)), (12, vI (x2)), (0, vR 56), (1, vI (v1)), (2, vI (v2)), (3, vI (v3)), (4, vI (v4)), (9, vL (v9)), (11, vI (v11))]) hX dX10_findPlace_95 hnl (by decide) rfl ?_
          refine j_iload hX 3 dX10_findPlace_97 rfl ?_
          refine j_i2l hX dX10_findPlace_99 ?_
          refine j_aload_n hX 4 dX10_findPlace_100 rfl rfl ?_
          refine j_getS (k := 43) hX hfl cbX10 ty56 (by decide) rfl wd1183 rfl sb56_43 dX10_findPlace_101 ?_
          refine j_iload hX 2 dX10_findPlace_104 rfl ?_
          obtain ⟨x8, hv, h⟩ := bs h
          refine j_lald hX hE ty86 pc86 hv dX10_findPlace_106 ?_
          refine j_lmul hX dX10_findPlace_107 ?_
          refine j_lload hX 9 dX10_findPlace_108 rfl ?_
          refine j_lcmp hX dX10_findPlace_110 ?_
          refine j_if_le hX (tgt := 127) dX10_findPlace_111 (by decide) (fun hc => ?_) (fun hc => ?_)
          · rw [if_pos hc] at h
            refine j_iinc (L' := [(11, vI (w32 (v11 + 1))), (7, vL (x7)), (5, vL (w64 (v5 + x5))), (13, vI (x4)), (12, vI (x2)), (0, vR 56), (1, vI (v1)), (2, vI (v2)), (3, vI (v3)), (4, vI (v4)), (9, vL (v9))]) hX 10 dX10_findPlace_127 hnl (by decide) rfl rfl ?_
            refine j_goto hX (tgt := 12) dX10_findPlace_130 (by decide) ?_
            refine j_sub [5, 6, 7, 8, 9, 2, 1, 10, 0] rfl ?_
            exact ih _ _ _ _ _ h
          · rw [if_neg hc] at h
            refine j_iload hX 3 dX10_findPlace_114 rfl ?_
            refine j_i2l hX dX10_findPlace_116 ?_
            refine j_aload_n hX 4 dX10_findPlace_117 rfl rfl ?_
            refine j_getS (k := 43) hX hfl cbX10 ty56 (by decide) rfl wd1183 rfl sb56_43 dX10_findPlace_118 ?_
            refine j_iload hX 2 dX10_findPlace_121 rfl ?_
            obtain ⟨x9, hv, h⟩ := bs h
            refine j_lald hX hE ty86 pc86 hv dX10_findPlace_123 ?_
            refine j_lmul hX dX10_findPlace_124 ?_
            refine j_lstore (L' := [(9, vL (w64 (x2 * x9))), (7, vL (x7)), (5, vL (w64 (v5 + x5))), (13, vI (x4)), (12, vI (x2)), (0, vR 56), (1, vI (v1)), (2, vI (v2)), (3, vI (v3)), (4, vI (v4)), (11, vI (v11))]) hX dX10_findPlace_125 hnl (by decide) rfl ?_
            refine j_iinc (L' := [(11, vI (w32 (v11 + 1))), (9, vL (w64 (x2 * x9))), (7, vL (x7)), (5, vL (w64 (v5 + x5))), (13, vI (x4)), (12, vI (x2)), (0, vR 56), (1, vI (v1)), (2, vI (v2)), (3, vI (v3)), (4, vI (v4))]) hX 10 dX10_findPlace_127 hnl (by decide) rfl rfl ?_
            refine j_goto hX (tgt := 12) dX10_findPlace_130 (by decide) ?_
            refine j_sub [6, 7, 8, 9, 10, 3, 2, 1, 0] rfl ?_
            exact ih _ _ _ _ _ h
        · rw [if_pos hc] at h
          refine j_goto hX (tgt := 127) dX10_findPlace_54 (by decide) ?_
          refine j_iinc (L' := [(11, vI (w32 (v11 + 1))), (12, vI (x2)), (0, vR 56), (1, vI (v1)), (2, vI (v2)), (3, vI (v3)), (4, vI (v4)), (5, vL (v5)), (7, vL (v7)), (9, vL (v9))]) hX 9 dX10_findPlace_127 hnl (by decide) rfl rfl ?_
          refine j_goto hX (tgt := 12) dX10_findPlace_130 (by decide) ?_
          refine j_sub [2, 3, 4, 5, 6, 7, 8, 9, 0] rfl ?_
          exact ih _ _ _ _ _ h
theorem s_X10_findPlace {g : G0} {B : Nat → Nat} {n : Nat} {E : Mem → Mem} {a1 : Int} {a2 : Int} {a3 : Int} {a4 : Int} {S : Mem} {S' : Mem} (hfl : g.2.2.2.2 = true) (hE : Lens E PM) (h : g_X10_findPlace a1 a2 a3 a4 S = some S') : Cn g B n yX10_findPlace cX10_findPlace 14 none 3 [vR 56, vI (a1), vI (a2), vI (a3), vI (a4)] (E S) (QcV g B n (E S')) := by
  refine Cn.of (by decide +kernel) (Nat.le_of_ble_eq_true rfl) (fun X hg hnl hX hR => ?_)
  subst hg
  have hX : Ctx X cX10_findPlace "TelegramFeelingsModel" 3 := hX
  unfold g_X10_findPlace at h
  show JW X B n 0 0 0 [(0, vR 56), (1, vI (a1)), (2, vI (a2)), (3, vI (a3)), (4, vI (a4))] [] (E S) (QM X (QcV (gX X) B n (E S')))
  refine j_lconst (z := 0) hX dX10_findPlace_0 rfl (rcl rfl) ?_
  refine j_lstore (L' := [(5, vL (0)), (0, vR 56), (1, vI (a1)), (2, vI (a2)), (3, vI (a3)), (4, vI (a4))]) hX dX10_findPlace_1 hnl (by decide) rfl ?_
  refine j_lconst (z := 0) hX dX10_findPlace_3 rfl (rcl rfl) ?_
  refine j_lstore (L' := [(7, vL (0)), (5, vL (0)), (0, vR 56), (1, vI (a1)), (2, vI (a2)), (3, vI (a3)), (4, vI (a4))]) hX dX10_findPlace_4 hnl (by decide) rfl ?_
  refine j_lconst (z := 0) hX dX10_findPlace_6 rfl (rcl rfl) ?_
  refine j_lstore (L' := [(9, vL (0)), (7, vL (0)), (5, vL (0)), (0, vR 56), (1, vI (a1)), (2, vI (a2)), (3, vI (a3)), (4, vI (a4))]) hX dX10_findPlace_7 hnl (by decide) rfl ?_
  refine j_iconst hX dX10_findPlace_9 (rc rfl) ?_
  refine j_istore (L' := [(11, vI (0)), (9, vL (0)), (7, vL (0)), (5, vL (0)), (0, vR 56), (1, vI (a1)), (2, vI (a2)), (3, vI (a3)), (4, vI (a4))]) hX dX10_findPlace_10 hnl (by decide) rfl ?_
  refine j_sub [4, 5, 6, 7, 8, 3, 2, 1, 0] rfl ?_
  refine sl_X10_findPlace_12 hX hR hfl hnl hE (fun y11 y12 y13 S10 h => ?_) _ _ _ _ _ _ h
  refine j_iload_n hX 1 dX10_findPlace_133 rfl rfl ?_
  refine j_iload_n hX 2 dX10_findPlace_134 rfl rfl ?_
  refine j_iload_n hX 3 dX10_findPlace_135 rfl rfl ?_
  refine j_iload hX 4 dX10_findPlace_136 rfl ?_
  refine j_callSI hX mwX10_errAt msX10_errAt wd1577 hyX10_errAt (by omega) (by decide) ⟨Nat.zero_le _, Nat.zero_le _⟩ dX10_findPlace_138 (s_X10_errAt hfl rfl) npX10_errAt rfl (Nat.le_of_ble_eq_true rfl) ?_
  refine j_istore (L' := [(11, vI (g_X10_errAt a1 a2 a3 a4)), (0, vR 56), (1, vI (a1)), (2, vI (a2)), (3, vI (a3)), (4, vI (a4)), (5, vL (y11)), (7, vL (y12)), (9, vL (y13))]) hX dX10_findPlace_141 hnl (by decide) rfl ?_
  refine j_aload_n hX 1 dX10_findPlace_143 rfl rfl ?_
  refine j_getS (k := 41) hX hfl cbX10 ty56 (by decide) rfl wd1181 rfl sb56_41 dX10_findPlace_144 ?_
  refine j_iload hX 0 dX10_findPlace_147 rfl ?_
  refine j_lload hX 6 dX10_findPlace_149 rfl ?_
  obtain ⟨S14, hv, h⟩ := bs h
  refine j_last hX hE ty84 pc84 hv dX10_findPlace_151 ?_
  refine j_aload_n hX 1 dX10_findPlace_152 rfl rfl ?_
  refine j_getS (k := 42) hX hfl cbX10 ty56 (by decide) rfl wd1182 rfl sb56_42 dX10_findPlace_153 ?_
  refine j_iload hX 0 dX10_findPlace_156 rfl ?_
  refine j_lload hX 7 dX10_findPlace_158 rfl ?_
  obtain ⟨S15, hv, h⟩ := bs h
  refine j_last hX hE ty85 pc85 hv dX10_findPlace_160 ?_
  refine j_aload_n hX 1 dX10_findPlace_161 rfl rfl ?_
  refine j_getS (k := 43) hX hfl cbX10 ty56 (by decide) rfl wd1183 rfl sb56_43 dX10_findPlace_162 ?_
  refine j_iload hX 0 dX10_findPlace_165 rfl ?_
  refine j_lload hX 8 dX10_findPlace_167 rfl ?_
  obtain ⟨S16, hv, h⟩ := bs h
  refine j_last hX hE ty86 pc86 hv dX10_findPlace_169 ?_
  cases h
  exact j_vret hX hR dX10_findPlace_170
theorem sj_X10_findErrors_76 {X : K0} {B : Nat → Nat} {n : Nat} {E : Mem → Mem} {S' : Mem} (hX : Ctx X cX10_findErrors "TelegramFeelingsModel" 4) (hR : CR X none) (hfl : (gX X).2.2.2.2 = true) (hnl : X.2.2.2.2.2.2.2.2.2.2.2.2.2.2 = 6) (hE : Lens E PM) {c : Int → Mem → Option Mem}   {v1 : Int} {v2 : Int} {v3 : Int} {v4 : Int} {s1 : Int} {s2 : Int} {S : Mem} (Hc : ∀ (v3 : Int) (S : Mem), c v3 S = some S' → JW X B n 0 0 14 [(0, vR 56), (1, vI (v1)), (2, vI (v2)), (3, vI (v3))] [] (E S) (QM X (QcV (gX X) B n (E S')))) (h : g_X10_findErrors_J76 c v1 v2 v3 v4 s1 s2 S = some S') : JW X B n 0 0 76 [(0, vR 56), (1, vI (v1)), (2, vI (v2)), (3, vI (v3)), (4, vI (v4))] [vL (s2), vI (s1), vR 84] (E S) (QM X (QcV (gX X) B n (E S'))) := by
  unfold g_X10_findErrors_J76 at h
  obtain ⟨S3, hv, h⟩ := bs h
  refine j_last hX hE ty84 pc84 hv dX10_findErrors_76 ?_
  refine j_aload_n hX 0 dX10_findErrors_77 rfl rfl ?_
  refine j_getS (k := 42) hX hfl cbX10 ty56 (by decide) rfl wd1182 rfl sb56_42 dX10_findErrors_78 ?_
  refine j_iload hX 4 dX10_findErrors_81 rfl ?_
  refine j_aload_n hX 0 dX10_findErrors_83 rfl rfl ?_
  refine j_getS (k := 41) hX hfl cbX10 ty56 (by decide) rfl wd1181 rfl sb56_41 dX10_findErrors_84 ?_
  refine j_iload hX 4 dX10_findErrors_87 rfl ?_
  obtain ⟨x4, hv, h⟩ := bs h
  refine j_lald hX hE ty84 pc84 hv dX10_findErrors_89 ?_
  obtain ⟨S5, hv, h⟩ := bs h
  refine j_last hX hE ty85 pc85 hv dX10_findErrors_90 ?_
  refine j_aload_n hX 0 dX10_findErrors_91 rfl rfl ?_
  refine j_getS (k := 43) hX hfl cbX10 ty56 (by decide) rfl wd1183 rfl sb56_43 dX10_findErrors_92 ?_
  refine j_iload hX 4 dX10_findErrors_95 rfl ?_
  refine j_aload_n hX 0 dX10_findErrors_97 rfl rfl ?_
  refine j_getS (k := 41) hX hfl cbX10 ty56 (by decide) rfl wd1181 rfl sb56_41 dX10_findErrors_98 ?_
  refine j_iload hX 4 dX10_findErrors_101 rfl ?_
  obtain ⟨x6, hv, h⟩ := bs h
  refine j_lald hX hE ty84 pc84 hv dX10_findErrors_103 ?_
  obtain ⟨S7, hv, h⟩ := bs h
  refine j_last hX hE ty86 pc86 hv dX10_findErrors_104 ?_
  refine j_iinc (L' := [(3, vI (w32 (v3 + 1))), (0, vR 56), (1, vI (v1)), (2, vI (v2)), (4, vI (v4))]) hX 3 dX10_findErrors_105 hnl (by decide) rfl rfl ?_
  refine j_goto hX (tgt := 14) dX10_findErrors_108 (by decide) ?_
  refine j_sub [1, 2, 3, 0] rfl ?_
  exact Hc _ _ h
theorem sj_X10_findErrors_58 {X : K0} {B : Nat → Nat} {n : Nat} {E : Mem → Mem} {S' : Mem} (hX : Ctx X cX10_findErrors "TelegramFeelingsModel" 4) (hR : CR X none) (hfl : (gX X).2.2.2.2 = true) (hnl : X.2.2.2.2.2.2.2.2.2.2.2.2.2.2 = 6) (hE : Lens E PM) {c : Int → Mem → Option Mem}   {v1 : Int} {v2 : Int} {v3 : Int} {v4 : Int} {s0 : Int} {S : Mem} (Hc : ∀ (v3 : Int) (S : Mem), c v3 S = some S' → JW X B n 0 0 14 [(0, vR 56), (1, vI (v1)), (2, vI (v2)), (3, vI (v3))] [] (E S) (QM X (QcV (gX X) B n (E S')))) (h : g_X10_findErrors_J58 c v1 v2 v3 v4 s0 S = some S') : JW X B n 0 0 58 [(0, vR 56), (1, vI (v1)), (2, vI (v2)), (3, vI (v3)), (4, vI (v4))] [vI (s0)] (E S) (QM X (QcV (gX X) B n (E S'))) := by
  unfold g_X10_findErrors_J58 at h
  refine j_istore (L' := [(5, vI (s0)), (0, vR 56), (1, vI (v1)), (2, vI (v2)), (3, vI (v3)), (4, vI (v4))]) hX dX10_findErrors_58 hnl (by decide) rfl ?_
  refine j_aload_n hX 1 dX10_findErrors_60 rfl rfl ?_
  refine j_getS (k := 41) hX hfl cbX10 ty56 (by decide) rfl wd1181 rfl sb56_41 dX10_findErrors_61 ?_
  refine j_iload hX 5 dX10_findErrors_64 rfl ?_
  refine j_iload hX 0 dX10_findErrors_66 rfl ?_
  refine j_if_eq hX (tgt := 75) dX10_findErrors_68 (by decide) (fun hc => ?_) (fun hc => ?_)
  · rw [if_pos hc] at h
    refine j_lconst (z := 0) hX dX10_findErrors_75 rfl (rcl rfl) ?_
    refine j_sub [1, 2, 3, 4, 5] rfl ?_
    exact sj_X10_findErrors_76 hX hR hfl hnl hE Hc  h
  · rw [if_neg hc] at h
    refine j_lconst (z := 1) hX dX10_findErrors_71 rfl (rcl rfl) ?_
    refine j_goto hX (tgt := 76) dX10_findErrors_72 (by decide) ?_
    refine j_sub [1, 2, 3, 4, 5] rfl ?_
    exact sj_X10_findErrors_76 hX hR hfl hnl hE Hc  h
theorem sj_X10_findErrors_57 {X : K0} {B : Nat → Nat} {n : Nat} {E : Mem → Mem} {S' : Mem} (hX : Ctx X cX10_findErrors "TelegramFeelingsModel" 4) (hR : CR X none) (hfl : (gX X).2.2.2.2 = true) (hnl : X.2.2.2.2.2.2.2.2.2.2.2.2.2.2 = 6) (hE : Lens E PM) {c : Int → Mem → Option Mem}   {v1 : Int} {v2 : Int} {v3 : Int} {v4 : Int} {S : Mem} (Hc : ∀ (v3 : Int) (S : Mem), c v3 S = some S' → JW X B n 0 0 14 [(0, vR 56), (1, vI (v1)), (2, vI (v2)), (3, vI (v3))] [] (E S) (QM X (QcV (gX X) B n (E S')))) (h : g_X10_findErrors_J57 c v1 v2 v3 v4 S = some S') : JW X B n 0 0 57 [(0, vR 56), (1, vI (v1)), (2, vI (v2)), (3, vI (v3)), (4, vI (v4))] [] (E S) (QM X (QcV (gX X) B n (E S'))) := by
  unfold g_X10_findErrors_J57 at h
  refine j_iconst hX dX10_findErrors_57 (rc rfl) ?_
  refine j_sub [0, 1, 2, 3, 4] rfl ?_
  exact sj_X10_findErrors_58 hX hR hfl hnl hE Hc  h
theorem sj_X10_findErrors_53 {X : K0} {B : Nat → Nat} {n : Nat} {E : Mem → Mem} {S' : Mem} (hX : Ctx X cX10_findErrors "TelegramFeelingsModel" 4) (hR : CR X none) (hfl : (gX X).2.2.2.2 = true) (hnl : X.2.2.2.2.2.2.2.2.2.2.2.2.2.2 = 6) (hE : Lens E PM) {c : Int → Mem → Option Mem}   {v1 : Int} {v2 : Int} {v3 : Int} {v4 : Int} {S : Mem} (Hc : ∀ (v3 : Int) (S : Mem), c v3 S = some S' → JW X B n 0 0 14 [(0, vR 56), (1, vI (v1)), (2, vI (v2)), (3, vI (v3))] [] (E S) (QM X (QcV (gX X) B n (E S')))) (h : g_X10_findErrors_J53 c v1 v2 v3 v4 S = some S') : JW X B n 0 0 53 [(0, vR 56), (1, vI (v1)), (2, vI (v2)), (3, vI (v3)), (4, vI (v4))] [] (E S) (QM X (QcV (gX X) B n (E S'))) := by
  unfold g_X10_findErrors_J53 at h
  refine j_iconst hX dX10_findErrors_53 (rc rfl) ?_
  refine j_goto hX (tgt := 58) dX10_findErrors_54 (by decide) ?_
  refine j_sub [0, 1, 2, 3, 4] rfl ?_
  exact sj_X10_findErrors_58 hX hR hfl hnl hE Hc  h
theorem sl_X10_findErrors_14 {X : K0} {B : Nat → Nat} {n : Nat} {E : Mem → Mem} {S' : Mem} (hX : Ctx X cX10_findErrors "TelegramFeelingsModel" 4) (hR : CR X none) (hfl : (gX X).2.2.2.2 = true) (hnl : X.2.2.2.2.2.2.2.2.2.2.2.2.2.2 = 6) (hE : Lens E PM) {k111 : Mem → Option Mem} {v1 : Int} {v2 : Int} (K111 : ∀ (S : Mem), k111 S = some S' → JW X B n 0 0 111 [(0, vR 56), (1, vI (v1)), (2, vI (v2))] [] (E S) (QM X (QcV (gX X) B n (E S')))) : ∀ (fu : Nat) (v3 : Int) (S : Mem), g_X10_findErrors_L14 k111 v1 v2 fu v3 S = some S' → JW X B n 0 0 14 [(0, vR 56), (1, vI (v1)), (2, vI (v2)), (3, vI (v3))] [] (E S) (QM X (QcV (gX X) B n (E S'))) := by
  intro fu
  induction fu with
  | zero =>
    intro v3 S h
    rw [g_X10_findErrors_L14] at h
    cases h
  | succ fu ih =>
    intro v3 S h
    rw [g_X10_findErrors_L14] at h
    refine j_iload_n hX 3 dX10_findErrors_14 rfl rfl ?_
    refine j_iconst hX dX10_findErrors_15 (rc rfl) ?_
    refine j_icmp_ge hX (tgt := 111) dX10_findErrors_16 (by decide) (fun hc => ?_) (fun hc => ?_)
    · rw [if_pos hc] at h
      refine j_sub [0, 1, 2] rfl ?_
      exact K111 _ h
    · rw [if_neg hc] at h
      refine j_aload_n hX 0 dX10_findErrors_19 rfl rfl ?_
      refine j_getI (k := 32) hX hE cbX10 ty56 pc56 (by decide) rfl wd1172 rfl dX10_findErrors_20 ?_
      refine j_iload_n hX 2 dX10_findErrors_23 rfl rfl ?_
      refine j_iload_n hX 3 dX10_findErrors_24 rfl rfl ?_
      refine j_iconst hX dX10_findErrors_25 (rc rfl) ?_
      refine j_idiv hX dX10_findErrors_26 (by decide) ?_
      refine j_iload_n hX 3 dX10_findErrors_27 rfl rfl ?_
      refine j_iconst hX dX10_findErrors_28 (rc rfl) ?_
      refine j_irem hX dX10_findErrors_29 (by decide) ?_
      refine j_callSI hX mwX10_errAt msX10_errAt wd1577 hyX10_errAt (by omega) (by decide) ⟨Nat.zero_le _, Nat.zero_le _⟩ dX10_findErrors_30 (s_X10_errAt hfl rfl) npX10_errAt rfl (Nat.le_of_ble_eq_true rfl) ?_
      obtain ⟨x2, hx, h⟩ := ap_s h
      rw [← hx]
      clear hx
      refine j_istore (L' := [(4, vI (x2)), (0, vR 56), (1, vI (v1)), (2, vI (v2)), (3, vI (v3))]) hX dX10_findErrors_33 hnl (by decide) rfl ?_
      refine j_iload_n hX 4 dX10_findErrors_35 rfl rfl ?_
      refine j_iconst hX dX10_findErrors_36 (rc rfl) ?_
      refine j_idiv hX dX10_findErrors_37 (by decide) ?_
      refine j_iconst hX dX10_findErrors_38 (rc rfl) ?_
      refine j_icmp_ne hX (tgt := 57) dX10_findErrors_39 (by decide) (fun hc => ?_) (fun hc => ?_)
      · rw [if_neg hc] at h
        refine j_sub [1, 2, 3, 4, 0] rfl ?_
        exact sj_X10_findErrors_57 hX hR hfl hnl hE ih  h
      · rw [if_pos hc] at h
        refine j_iload_n hX 2 dX10_findErrors_42 rfl rfl ?_
        refine j_if_lt hX (tgt := 53) dX10_findErrors_43 (by decide) (fun hc => ?_) (fun hc => ?_)
        · rw [if_pos hc] at h
          refine j_sub [1, 2, 3, 4, 0] rfl ?_
          exact sj_X10_findErrors_53 hX hR hfl hnl hE ih  h
        · rw [if_neg hc] at h
          refine j_iload_n hX 4 dX10_findErrors_46 rfl rfl ?_
          refine j_iconst hX dX10_findErrors_47 (rc rfl) ?_
          refine j_irem hX dX10_findErrors_48 (by decide) ?_
          refine j_iconst hX dX10_findErrors_49 (rc rfl) ?_
          refine j_icmp_ne hX (tgt := 57) dX10_findErrors_50 (by decide) (fun hc => ?_) (fun hc => ?_)
          · rw [if_neg hc] at h
            refine j_sub [1, 2, 3, 4, 0] rfl ?_
            exact sj_X10_findErrors_57 hX hR hfl hnl hE ih  h
          · rw [if_pos hc] at h
            refine j_sub [1, 2, 3, 4, 0] rfl ?_
            exact sj_X10_findErrors_53 hX hR hfl hnl hE ih  h
theorem sl_X10_findErrors_7 {X : K0} {B : Nat → Nat} {n : Nat} {E : Mem → Mem} {S' : Mem} (hX : Ctx X cX10_findErrors "TelegramFeelingsModel" 4) (hR : CR X none) (hfl : (gX X).2.2.2.2 = true) (hnl : X.2.2.2.2.2.2.2.2.2.2.2.2.2.2 = 6) (hE : Lens E PM) {k117 : Mem → Option Mem} {v1 : Int} (K117 : ∀ (S : Mem), k117 S = some S' → JW X B n 0 0 117 [(0, vR 56)] [] (E S) (QM X (QcV (gX X) B n (E S')))) : ∀ (fu : Nat) (v2 : Int) (S : Mem), g_X10_findErrors_L7 k117 v1 fu v2 S = some S' → JW X B n 0 0 7 [(0, vR 56), (1, vI (v1)), (2, vI (v2))] [] (E S) (QM X (QcV (gX X) B n (E S'))) := by
  intro fu
  induction fu with
  | zero =>
    intro v2 S h
    rw [g_X10_findErrors_L7] at h
    cases h
  | succ fu ih =>
    intro v2 S h
    rw [g_X10_findErrors_L7] at h
    refine j_iload_n hX 2 dX10_findErrors_7 rfl rfl ?_
    refine j_iconst hX dX10_findErrors_8 (rc rfl) ?_
    refine j_icmp_ge hX (tgt := 117) dX10_findErrors_9 (by decide) (fun hc => ?_) (fun hc => ?_)
    · rw [if_pos hc] at h
      refine j_sub [0] rfl ?_
      exact K117 _ h
    · rw [if_neg hc] at h
      refine j_iconst hX dX10_findErrors_12 (rc rfl) ?_
      refine j_istore_n (L' := [(3, vI (0)), (0, vR 56), (1, vI (v1)), (2, vI (v2))]) hX dX10_findErrors_13 rfl hnl (by decide) rfl ?_
      refine j_sub [1, 2, 3, 0] rfl ?_
      refine sl_X10_findErrors_14 hX hR hfl hnl hE (fun S8 h => ?_) _ _ _ h
      refine j_iinc (L' := [(2, vI (w32 (v2 + 1))), (0, vR 56), (1, vI (v1))]) hX 2 dX10_findErrors_111 hnl (by decide) rfl rfl ?_
      refine j_goto hX (tgt := 7) dX10_findErrors_114 (by decide) ?_
      refine j_sub [1, 2, 0] rfl ?_
      exact ih _ _ h
theorem sl_X10_findErrors_138 {X : K0} {B : Nat → Nat} {n : Nat} {E : Mem → Mem} {S' : Mem} (hX : Ctx X cX10_findErrors "TelegramFeelingsModel" 4) (hR : CR X none) (hfl : (gX X).2.2.2.2 = true) (hnl : X.2.2.2.2.2.2.2.2.2.2.2.2.2.2 = 6) (hE : Lens E PM) {k164 : Mem → Option Mem} {v2 : Int} {v3 : Int} (K164 : ∀ (S : Mem), k164 S = some S' → JW X B n 0 0 164 [(0, vR 56), (2, vI (v2)), (3, vI (v3))] [] (E S) (QM X (QcV (gX X) B n (E S')))) : ∀ (fu : Nat) (v4 : Int) (S : Mem), g_X10_findErrors_L138 k164 v2 v3 fu v4 S = some S' → JW X B n 0 0 138 [(0, vR 56), (2, vI (v2)), (3, vI (v3)), (4, vI (v4))] [] (E S) (QM X (QcV (gX X) B n (E S'))) := by
  intro fu
  induction fu with
  | zero =>
    intro v4 S h
    rw [g_X10_findErrors_L138] at h
    cases h
  | succ fu ih =>
    intro v4 S h
    rw [g_X10_findErrors_L138] at h
    refine j_iload hX 3 dX10_findErrors_138 rfl ?_
    refine j_iconst hX dX10_findErrors_140 (rc rfl) ?_
    refine j_icmp_ge hX (tgt := 164) dX10_findErrors_141 (by decide) (fun hc => ?_) (fun hc => ?_)
    · rw [if_pos hc] at h
      refine j_sub [0, 1, 2] rfl ?_
      exact K164 _ h
    · rw [if_neg hc] at h
      refine j_aload_n hX 0 dX10_findErrors_144 rfl rfl ?_
      refine j_iload_n hX 1 dX10_findErrors_145 rfl rfl ?_
      refine j_iload_n hX 2 dX10_findErrors_146 rfl rfl ?_
      refine j_iload hX 3 dX10_findErrors_147 rfl ?_
      refine j_iconst hX dX10_findErrors_149 (rc rfl) ?_
      refine j_idiv hX dX10_findErrors_150 (by decide) ?_
      refine j_iload hX 3 dX10_findErrors_151 rfl ?_
      refine j_iconst hX dX10_findErrors_153 (rc rfl) ?_
      refine j_irem hX dX10_findErrors_154 (by decide) ?_
      obtain ⟨S10, h1, h⟩ := bs h
      refine j_callVV hX mwX10_findPlace miX10_findPlace wd1580 cbX10 ty56 hyX10_findPlace (by omega) (by decide) ⟨Nat.zero_le _, Nat.zero_le _⟩ dX10_findErrors_155 (s_X10_findPlace hfl hE h1) npX10_findPlace rfl (Nat.le_of_ble_eq_true rfl) ?_
      refine j_iinc (L' := [(4, vI (w32 (v4 + 1))), (0, vR 56), (2, vI (v2)), (3, vI (v3))]) hX 3 dX10_findErrors_158 hnl (by decide) rfl rfl ?_
      refine j_goto hX (tgt := 138) dX10_findErrors_161 (by decide) ?_
      refine j_sub [1, 2, 3, 0] rfl ?_
      exact ih _ _ h
theorem sl_X10_findErrors_130 {X : K0} {B : Nat → Nat} {n : Nat} {E : Mem → Mem} {S' : Mem} (hX : Ctx X cX10_findErrors "TelegramFeelingsModel" 4) (hR : CR X none) (hfl : (gX X).2.2.2.2 = true) (hnl : X.2.2.2.2.2.2.2.2.2.2.2.2.2.2 = 6) (hE : Lens E PM) {k170 : Mem → Option Mem} {v2 : Int} (K170 : ∀ (S : Mem), k170 S = some S' → JW X B n 0 0 170 [(0, vR 56), (2, vI (v2))] [] (E S) (QM X (QcV (gX X) B n (E S')))) : ∀ (fu : Nat) (v3 : Int) (S : Mem), g_X10_findErrors_L130 k170 v2 fu v3 S = some S' → JW X B n 0 0 130 [(0, vR 56), (2, vI (v2)), (3, vI (v3))] [] (E S) (QM X (QcV (gX X) B n (E S'))) := by
  intro fu
  induction fu with
  | zero =>
    intro v3 S h
    rw [g_X10_findErrors_L130] at h
    cases h
  | succ fu ih =>
    intro v3 S h
    rw [g_X10_findErrors_L130] at h
    refine j_iload_n hX 2 dX10_findErrors_130 rfl rfl ?_
    refine j_iconst hX dX10_findErrors_131 (rc rfl) ?_
    refine j_icmp_ge hX (tgt := 170) dX10_findErrors_132 (by decide) (fun hc => ?_) (fun hc => ?_)
    · rw [if_pos hc] at h
      refine j_sub [0, 1] rfl ?_
      exact K170 _ h
    · rw [if_neg hc] at h
      refine j_iconst hX dX10_findErrors_135 (rc rfl) ?_
      refine j_istore (L' := [(4, vI (0)), (0, vR 56), (2, vI (v2)), (3, vI (v3))]) hX dX10_findErrors_136 hnl (by decide) rfl ?_
      refine j_sub [1, 2, 3, 0] rfl ?_
      refine sl_X10_findErrors_138 hX hR hfl hnl hE (fun S11 h => ?_) _ _ _ h
      refine j_iinc (L' := [(3, vI (w32 (v3 + 1))), (0, vR 56), (2, vI (v2))]) hX 2 dX10_findErrors_164 hnl (by decide) rfl rfl ?_
      refine j_goto hX (tgt := 130) dX10_findErrors_167 (by decide) ?_
      refine j_sub [1, 2, 0] rfl ?_
      exact ih _ _ h
theorem sl_X10_findErrors_124 {X : K0} {B : Nat → Nat} {n : Nat} {E : Mem → Mem} {S' : Mem} (hX : Ctx X cX10_findErrors "TelegramFeelingsModel" 4) (hR : CR X none) (hfl : (gX X).2.2.2.2 = true) (hnl : X.2.2.2.2.2.2.2.2.2.2.2.2.2.2 = 6) (hE : Lens E PM)    : ∀ (fu : Nat) (v2 : Int) (S : Mem), g_X10_findErrors_L124 fu v2 S = some S' → JW X B n 0 0 124 [(0, vR 56), (2, vI (v2))] [] (E S) (QM X (QcV (gX X) B n (E S'))) := by
  intro fu
  induction fu with
  | zero =>
    intro v2 S h
    rw [g_X10_findErrors_L124] at h
    cases h
  | succ fu ih =>
    intro v2 S h
    rw [g_X10_findErrors_L124] at h
    refine j_iload_n hX 1 dX10_findErrors_124 rfl rfl ?_
    refine j_if_lt hX (tgt := 176) dX10_findErrors_125 (by decide) (fun hc => ?_) (fun hc => ?_)
    · rw [if_pos hc] at h
      cases h
      exact j_vret hX hR dX10_findErrors_176
    · rw [if_neg hc] at h
      refine j_iconst hX dX10_findErrors_128 (rc rfl) ?_
      refine j_istore_n (L' := [(3, vI (0)), (0, vR 56), (2, vI (v2))]) hX dX10_findErrors_129 rfl hnl (by decide) rfl ?_
      refine j_sub [1, 2, 0] rfl ?_
      refine sl_X10_findErrors_130 hX hR hfl hnl hE (fun S12 h => ?_) _ _ _ h
      refine j_iinc (L' := [(2, vI (w32 (v2 + (-1)))), (0, vR 56)]) hX 1 dX10_findErrors_170 hnl (by decide) rfl rfl ?_
      refine j_goto hX (tgt := 124) dX10_findErrors_173 (by decide) ?_
      refine j_sub [1, 0] rfl ?_
      exact ih _ _ h
theorem s_X10_findErrors {g : G0} {B : Nat → Nat} {n : Nat} {E : Mem → Mem} {a1 : Int} {S : Mem} {S' : Mem} (hfl : g.2.2.2.2 = true) (hE : Lens E PM) (h : g_X10_findErrors a1 S = some S') : Cn g B n yX10_findErrors cX10_findErrors 6 none 4 [vR 56, vI (a1)] (E S) (QcV g B n (E S')) := by
  refine Cn.of (by decide +kernel) (Nat.le_of_ble_eq_true rfl) (fun X hg hnl hX hR => ?_)
  subst hg
  have hX : Ctx X cX10_findErrors "TelegramFeelingsModel" 4 := hX
  unfold g_X10_findErrors at h
  show JW X B n 0 0 0 [(0, vR 56), (1, vI (a1))] [] (E S) (QM X (QcV (gX X) B n (E S')))
  refine j_aload_n hX 0 dX10_findErrors_0 rfl rfl ?_
  refine j_iload_n hX 1 dX10_findErrors_1 rfl rfl ?_
  refine j_putI (k := 44) hX hE cbX10 ty56 pc56 (by decide) rfl wd1184 rfl (Or.inl rfl) rfl dX10_findErrors_2 ?_
  obtain ⟨S1, hx, h⟩ := ap_s h
  rw [← hx]
  clear hx
  refine j_iconst hX dX10_findErrors_5 (rc rfl) ?_
  refine j_istore_n (L' := [(2, vI (0)), (0, vR 56), (1, vI (a1))]) hX dX10_findErrors_6 rfl hnl (by decide) rfl ?_
  refine j_sub [1, 2, 0] rfl ?_
  refine sl_X10_findErrors_7 hX hR hfl hnl hE (fun S9 h => ?_) _ _ _ h
  refine j_aload_n hX 0 dX10_findErrors_117 rfl rfl ?_
  refine j_getI (k := 32) hX hE cbX10 ty56 pc56 (by decide) rfl wd1172 rfl dX10_findErrors_118 ?_
  refine j_iconst hX dX10_findErrors_121 (rc rfl) ?_
  refine j_isub hX dX10_findErrors_122 ?_
  refine j_istore_n (L' := [(2, vI (w32 ((gI S9 56 32) - 1))), (0, vR 56)]) hX dX10_findErrors_123 rfl hnl (by decide) rfl ?_
  refine j_sub [1, 0] rfl ?_
  refine sl_X10_findErrors_124 hX hR hfl hnl hE  _ _ _ h
theorem s_X10_layFirst {g : G0} {B : Nat → Nat} {n : Nat} {E : Mem → Mem} {a1 : Int} {S : Mem} {S' : Mem} (hfl : g.2.2.2.2 = true) (hE : Lens E PM) (h : g_X10_layFirst a1 S = some S') : Cn g B n yX10_layFirst cX10_layFirst 2 none 4 [vR 56, vI (a1)] (E S) (QcV g B n (E S')) := by
  refine Cn.of (by decide +kernel) (Nat.le_of_ble_eq_true rfl) (fun X hg hnl hX hR => ?_)
  subst hg
  have hX : Ctx X cX10_layFirst "TelegramFeelingsModel" 4 := hX
  unfold g_X10_layFirst at h
  show JW X B n 0 0 0 [(0, vR 56), (1, vI (a1))] [] (E S) (QM X (QcV (gX X) B n (E S')))
  refine j_aload_n hX 0 dX10_layFirst_0 rfl rfl ?_
  refine j_iload_n hX 1 dX10_layFirst_1 rfl rfl ?_
  obtain ⟨S1, h1, h⟩ := bs h
  refine j_callVV hX mwX10_layWired miX10_layWired wd1479 cbX10 ty56 hyX10_layWired (by omega) (by decide) ⟨Nat.zero_le _, Nat.zero_le _⟩ dX10_layFirst_2 (s_X10_layWired hfl hE h1) npX10_layWired rfl (Nat.le_of_ble_eq_true rfl) ?_
  refine j_aload_n hX 0 dX10_layFirst_5 rfl rfl ?_
  refine j_getI (k := 32) hX hE cbX10 ty56 pc56 (by decide) rfl wd1172 rfl dX10_layFirst_6 ?_
  refine j_bipush hX dX10_layFirst_9 (rc rfl) (by decide) ?_
  refine j_icmp_le hX (tgt := 20) dX10_layFirst_11 (by decide) (fun hc => ?_) (fun hc => ?_)
  · rw [if_pos hc] at h
    cases h
    exact j_vret hX hR dX10_layFirst_20
  · rw [if_neg hc] at h
    refine j_aload_n hX 0 dX10_layFirst_14 rfl rfl ?_
    refine j_bipush hX dX10_layFirst_15 (rc rfl) (by decide) ?_
    refine j_putI (k := 32) hX hE cbX10 ty56 pc56 (by decide) rfl wd1172 rfl (Or.inl rfl) rfl dX10_layFirst_17 ?_
    obtain ⟨S2, hx, h⟩ := ap_s h
    rw [← hx]
    clear hx
    cases h
    exact j_vret hX hR dX10_layFirst_20
theorem s_X10_came {g : G0} {B : Nat → Nat} {n : Nat} {E : Mem → Mem} {a1 : Int} {S : Mem} {r : Int} {S' : Mem} (hfl : g.2.2.2.2 = true) (hE : Lens E PM) (h : g_X10_came a1 S = some (r, S')) : Cn g B n yX10_came cX10_came 2 (some .long) 5 [vR 56, vI (a1)] (E S) (QcL g B n r (E S')) := by
  refine Cn.of (by decide +kernel) (Nat.le_of_ble_eq_true rfl) (fun X hg hnl hX hR => ?_)
  subst hg
  have hX : Ctx X cX10_came "TelegramFeelingsModel" 5 := hX
  unfold g_X10_came at h
  show JW X B n 0 0 0 [(0, vR 56), (1, vI (a1))] [] (E S) (QM X (QcL (gX X) B n r (E S')))
  refine j_iload_n hX 1 dX10_came_0 rfl rfl ?_
  obtain ⟨x1, h1, h⟩ := bs h
  refine j_callSI hX mwX10_isShelf msX10_isShelf wd1337 hyX10_isShelf (by omega) (by decide) ⟨Nat.zero_le _, Nat.zero_le _⟩ dX10_came_1 (s_X10_isShelf hfl h1) npX10_isShelf rfl (Nat.le_of_ble_eq_true rfl) ?_
  refine j_if_eq hX (tgt := 16) dX10_came_4 (by decide) (fun hc => ?_) (fun hc => ?_)
  · rw [if_pos hc] at h
    refine j_ldc2 (z := (-9223372036854775808)) hX wd1568 (by decide) dX10_came_16 (rcl rfl) ?_
    cases h
    exact j_lret hX hR dX10_came_19
  · rw [if_neg hc] at h
    refine j_aload_n hX 0 dX10_came_7 rfl rfl ?_
    refine j_iload_n hX 1 dX10_came_8 rfl rfl ?_
    refine j_iconst hX dX10_came_9 (rc rfl) ?_
    obtain ⟨x2, h1, h⟩ := bs h
    refine j_callVI hX mwX10_rowFault miX10_rowFault wd1475 cbX10 ty56 hyX10_rowFault (by omega) (by decide) ⟨Nat.zero_le _, Nat.zero_le _⟩ dX10_came_10 (s_X10_rowFault hfl hE h1) npX10_rowFault rfl (Nat.le_of_ble_eq_true rfl) ?_
    refine j_if_ge hX (tgt := 20) dX10_came_13 (by decide) (fun hc => ?_) (fun hc => ?_)
    · rw [if_pos hc] at h
      refine j_aload_n hX 0 dX10_came_20 rfl rfl ?_
      refine j_iload_n hX 1 dX10_came_21 rfl rfl ?_
      obtain ⟨S3, h1, h⟩ := bs h
      refine j_callVV hX mwX10_layFirst miX10_layFirst wd1569 cbX10 ty56 hyX10_layFirst (by omega) (by decide) ⟨Nat.zero_le _, Nat.zero_le _⟩ dX10_came_22 (s_X10_layFirst hfl hE h1) npX10_layFirst rfl (Nat.le_of_ble_eq_true rfl) ?_
      refine j_aload_n hX 0 dX10_came_25 rfl rfl ?_
      refine j_iconst hX dX10_came_26 (rc rfl) ?_
      obtain ⟨S4, h1, h⟩ := bs h
      refine j_callVV hX mwX10_findErrors miX10_findErrors wd1573 cbX10 ty56 hyX10_findErrors (by omega) (by decide) ⟨Nat.zero_le _, Nat.zero_le _⟩ dX10_came_27 (s_X10_findErrors hfl hE h1) npX10_findErrors rfl (Nat.le_of_ble_eq_true rfl) ?_
      refine j_aload_n hX 0 dX10_came_30 rfl rfl ?_
      refine j_getS (k := 41) hX hfl cbX10 ty56 (by decide) rfl wd1181 rfl sb56_41 dX10_came_31 ?_
      refine j_iconst hX dX10_came_34 (rc rfl) ?_
      refine j_iconst hX dX10_came_35 (rc rfl) ?_
      refine j_iconst hX dX10_came_36 (rc rfl) ?_
      refine j_iconst hX dX10_came_37 (rc rfl) ?_
      refine j_callSI hX mwX10_errAt msX10_errAt wd1577 hyX10_errAt (by omega) (by decide) ⟨Nat.zero_le _, Nat.zero_le _⟩ dX10_came_38 (s_X10_errAt hfl rfl) npX10_errAt rfl (Nat.le_of_ble_eq_true rfl) ?_
      obtain ⟨x5, hv, h⟩ := bs h
      refine j_lald hX hE ty84 pc84 hv dX10_came_41 ?_
      cases h
      exact j_lret hX hR dX10_came_42
    · rw [if_neg hc] at h
      refine j_ldc2 (z := (-9223372036854775808)) hX wd1568 (by decide) dX10_came_16 (rcl rfl) ?_
      cases h
      exact j_lret hX hR dX10_came_19
theorem sl_X10_cameAs_82 {X : K0} {B : Nat → Nat} {n : Nat} {E : Mem → Mem} {r : Int} {S' : Mem} (hX : Ctx X cX10_cameAs "TelegramFeelingsModel" 5) (hR : CR X (some .int)) (hfl : (gX X).2.2.2.2 = true) (hnl : X.2.2.2.2.2.2.2.2.2.2.2.2.2.2 = 8) (hE : Lens E PM) {k153 : Int → Mem → Option (Int × Mem)} {v2 : Int} {v4 : Int} {v5 : Int} {v6 : Int} (K153 : ∀ (v7 : Int) (S : Mem), k153 v7 S = some (r, S') → JW X B n 0 0 153 [(0, vR 56), (2, vI (v2)), (5, vI (v5)), (6, vI (v6)), (7, vI (v7))] [] (E S) (QM X (QcI (gX X) B n r (E S')))) : ∀ (fu : Nat) (v7 : Int) (S : Mem), g_X10_cameAs_L82 k153 v2 v4 v5 v6 fu v7 S = some (r, S') → JW X B n 0 0 82 [(0, vR 56), (2, vI (v2)), (4, vI (v4)), (5, vI (v5)), (6, vI (v6)), (7, vI (v7))] [] (E S) (QM X (QcI (gX X) B n r (E S'))) := by
  intro fu
  induction fu with
  | zero =>
    intro v7 S h
    rw [g_X10_cameAs_L82] at h
    cases h
  | succ fu ih =>
    intro v7 S h
    rw [g_X10_cameAs_L82] at h
    refine j_aload_n hX 0 dX10_cameAs_82 rfl rfl ?_
    refine j_getS (k := 4) hX hfl cbX10 ty56 (by decide) rfl wd1144 rfl sb56_4 dX10_cameAs_83 ?_
    refine j_iload hX 5 dX10_cameAs_86 rfl ?_
    obtain ⟨x6, hv, h⟩ := bs h
    refine j_iald hX hE ty59 pc59 hv dX10_cameAs_88 ?_
    refine j_iload hX 2 dX10_cameAs_89 rfl ?_
    refine j_callSI hX mwX10_mayStand msX10_mayStand wd1512 hyX10_mayStand (by omega) (by decide) ⟨Nat.zero_le _, Nat.zero_le _⟩ dX10_cameAs_91 (s_X10_mayStand hfl rfl) npX10_mayStand rfl (Nat.le_of_ble_eq_true rfl) ?_
    refine j_if_eq hX (tgt := 147) dX10_cameAs_94 (by decide) (fun hc => ?_) (fun hc => ?_)
    · rw [if_pos hc] at h
      refine j_iinc (L' := [(7, vI (w32 (v7 + 1))), (0, vR 56), (2, vI (v2)), (4, vI (v4)), (5, vI (v5)), (6, vI (v6))]) hX 5 dX10_cameAs_147 hnl (by decide) rfl rfl ?_
      refine j_goto hX (tgt := 82) dX10_cameAs_150 (by decide) ?_
      refine j_sub [1, 2, 3, 4, 5, 0] rfl ?_
      exact ih _ _ h
    · rw [if_neg hc] at h
      refine j_aload_n hX 0 dX10_cameAs_97 rfl rfl ?_
      refine j_iload hX 5 dX10_cameAs_98 rfl ?_
      refine j_aload_n hX 0 dX10_cameAs_100 rfl rfl ?_
      refine j_getS (k := 31) hX hfl cbX10 ty56 (by decide) rfl wd1171 rfl sb56_31 dX10_cameAs_101 ?_
      refine j_iload hX 4 dX10_cameAs_104 rfl ?_
      obtain ⟨x7, hv, h⟩ := bs h
      refine j_iald hX hE ty77 pc77 hv dX10_cameAs_106 ?_
      obtain ⟨x8, h1, h⟩ := bs h
      refine j_callVI hX mwX10_weightOf miX10_weightOf wd1584 cbX10 ty56 hyX10_weightOf (by omega) (by decide) ⟨Nat.zero_le _, Nat.zero_le _⟩ dX10_cameAs_107 (s_X10_weightOf hfl hE h1) npX10_weightOf rfl (Nat.le_of_ble_eq_true rfl) ?_
      refine j_i2l hX dX10_cameAs_110 ?_
      refine j_aload_n hX 0 dX10_cameAs_111 rfl rfl ?_
      refine j_getS (k := 43) hX hfl cbX10 ty56 (by decide) rfl wd1183 rfl sb56_43 dX10_cameAs_112 ?_
      refine j_aload_n hX 0 dX10_cameAs_115 rfl rfl ?_
      refine j_iload hX 4 dX10_cameAs_116 rfl ?_
      refine j_iload hX 5 dX10_cameAs_118 rfl ?_
      refine j_iload hX 3 dX10_cameAs_120 rfl ?_
      refine j_iconst hX dX10_cameAs_122 (rc rfl) ?_
      obtain ⟨x9, h1, h⟩ := bs h
      refine j_callVI hX mwX10_nextAt miX10_nextAt wd1588 cbX10 ty56 hyX10_nextAt (by omega) (by decide) ⟨Nat.zero_le _, Nat.zero_le _⟩ dX10_cameAs_123 (s_X10_nextAt hfl hE h1) npX10_nextAt rfl (Nat.le_of_ble_eq_true rfl) ?_
      obtain ⟨x10, hv, h⟩ := bs h
      refine j_lald hX hE ty86 pc86 hv dX10_cameAs_126 ?_
      refine j_lmul hX dX10_cameAs_127 ?_
      refine j_aload_n hX 0 dX10_cameAs_128 rfl rfl ?_
      refine j_getS (k := 43) hX hfl cbX10 ty56 (by decide) rfl wd1183 rfl sb56_43 dX10_cameAs_129 ?_
      refine j_iload hX 4 dX10_cameAs_132 rfl ?_
      refine j_iload hX 2 dX10_cameAs_134 rfl ?_
      refine j_iload hX 3 dX10_cameAs_136 rfl ?_
      refine j_iconst hX dX10_cameAs_138 (rc rfl) ?_
      refine j_callSI hX mwX10_errAt msX10_errAt wd1577 hyX10_errAt (by omega) (by decide) ⟨Nat.zero_le _, Nat.zero_le _⟩ dX10_cameAs_139 (s_X10_errAt hfl rfl) npX10_errAt rfl (Nat.le_of_ble_eq_true rfl) ?_
      obtain ⟨x11, hv, h⟩ := bs h
      refine j_lald hX hE ty86 pc86 hv dX10_cameAs_142 ?_
      refine j_lcmp hX dX10_cameAs_143 ?_
      refine j_if_eq hX (tgt := 153) dX10_cameAs_144 (by decide) (fun hc => ?_) (fun hc => ?_)
      · rw [if_pos hc] at h
        refine j_sub [0, 1, 3, 4, 5] rfl ?_
        exact K153 _ _ h
      · rw [if_neg hc] at h
        refine j_iinc (L' := [(7, vI (w32 (v7 + 1))), (0, vR 56), (2, vI (v2)), (4, vI (v4)), (5, vI (v5)), (6, vI (v6))]) hX 5 dX10_cameAs_147 hnl (by decide) rfl rfl ?_
        refine j_goto hX (tgt := 82) dX10_cameAs_150 (by decide) ?_
        refine j_sub [1, 2, 3, 4, 5, 0] rfl ?_
        exact ih _ _ h
theorem sl_X10_cameAs_73 {X : K0} {B : Nat → Nat} {n : Nat} {E : Mem → Mem} {r : Int} {S' : Mem} (hX : Ctx X cX10_cameAs "TelegramFeelingsModel" 5) (hR : CR X (some .int)) (hfl : (gX X).2.2.2.2 = true) (hnl : X.2.2.2.2.2.2.2.2.2.2.2.2.2.2 = 8) (hE : Lens E PM)  {v2 : Int}  : ∀ (fu : Nat) (v4 : Int) (v5 : Int) (v6 : Int) (S : Mem), g_X10_cameAs_L73 v2 fu v4 v5 v6 S = some (r, S') → JW X B n 0 0 73 [(0, vR 56), (2, vI (v2)), (4, vI (v4)), (5, vI (v5)), (6, vI (v6))] [] (E S) (QM X (QcI (gX X) B n r (E S'))) := by
  intro fu
  induction fu with
  | zero =>
    intro v4 v5 v6 S h
    rw [g_X10_cameAs_L73] at h
    cases h
  | succ fu ih =>
    intro v4 v5 v6 S h
    rw [g_X10_cameAs_L73] at h
    refine j_iload hX 4 dX10_cameAs_73 rfl ?_
    refine j_iload_n hX 1 dX10_cameAs_75 rfl rfl ?_
    refine j_icmp_gt hX (tgt := 186) dX10_cameAs_76 (by decide) (fun hc => ?_) (fun hc => ?_)
    · rw [if_pos hc] at h
      refine j_bipush hX dX10_cameAs_186 (rc rfl) (by decide) ?_
      cases h
      exact j_iret hX hR dX10_cameAs_188
    · rw [if_neg hc] at h
      refine j_iconst hX dX10_cameAs_79 (rc rfl) ?_
      refine j_istore (L' := [(7, vI (0)), (0, vR 56), (2, vI (v2)), (4, vI (v4)), (5, vI (v5)), (6, vI (v6))]) hX dX10_cameAs_80 hnl (by decide) rfl ?_
      refine j_sub [1, 2, 3, 4, 5, 0] rfl ?_
      refine sl_X10_cameAs_82 hX hR hfl hnl hE (fun y13 S12 h => ?_) _ _ _ h
      refine j_iload hX 3 dX10_cameAs_153 rfl ?_
      refine j_iload_n hX 1 dX10_cameAs_155 rfl rfl ?_
      refine j_icmp_ne hX (tgt := 162) dX10_cameAs_156 (by decide) (fun hc => ?_) (fun hc => ?_)
      · rw [if_neg hc] at h
        refine j_aload_n hX 0 dX10_cameAs_162 rfl rfl ?_
        refine j_getS (k := 4) hX hfl cbX10 ty56 (by decide) rfl wd1144 rfl sb56_4 dX10_cameAs_163 ?_
        refine j_iload hX 4 dX10_cameAs_166 rfl ?_
        obtain ⟨x14, hv, h⟩ := bs h
        refine j_iald hX hE ty59 pc59 hv dX10_cameAs_168 ?_
        refine j_istore (L' := [(4, vI (x14)), (0, vR 56), (2, vI (v2)), (5, vI (v5)), (6, vI (v6)), (7, vI (y13))]) hX dX10_cameAs_169 hnl (by decide) rfl ?_
        refine j_iload hX 0 dX10_cameAs_171 rfl ?_
        refine j_iconst hX dX10_cameAs_173 (rc rfl) ?_
        refine j_icmp_ne hX (tgt := 180) dX10_cameAs_174 (by decide) (fun hc => ?_) (fun hc => ?_)
        · rw [if_neg hc] at h
          refine j_iinc (L' := [(6, vI (w32 (v6 + 1))), (4, vI (x14)), (0, vR 56), (2, vI (v2)), (5, vI (v5)), (7, vI (y13))]) hX 4 dX10_cameAs_180 hnl (by decide) rfl rfl ?_
          refine j_goto hX (tgt := 73) dX10_cameAs_183 (by decide) ?_
          refine j_sub [2, 3, 1, 4, 0] rfl ?_
          exact ih _ _ _ _ h
        · rw [if_pos hc] at h
          refine j_iconst hX dX10_cameAs_177 (rc rfl) ?_
          refine j_istore (L' := [(5, vI (1)), (4, vI (x14)), (0, vR 56), (2, vI (v2)), (6, vI (v6)), (7, vI (y13))]) hX dX10_cameAs_178 hnl (by decide) rfl ?_
          refine j_iinc (L' := [(6, vI (w32 (v6 + 1))), (5, vI (1)), (4, vI (x14)), (0, vR 56), (2, vI (v2)), (7, vI (y13))]) hX 4 dX10_cameAs_180 hnl (by decide) rfl rfl ?_
          refine j_goto hX (tgt := 73) dX10_cameAs_183 (by decide) ?_
          refine j_sub [3, 4, 2, 1, 0] rfl ?_
          exact ih _ _ _ _ h
      · rw [if_pos hc] at h
        refine j_iload hX 4 dX10_cameAs_159 rfl ?_
        cases h
        exact j_iret hX hR dX10_cameAs_161
theorem s_X10_cameAs {g : G0} {B : Nat → Nat} {n : Nat} {E : Mem → Mem} {a1 : Int} {a2 : Int} {S : Mem} {r : Int} {S' : Mem} (hfl : g.2.2.2.2 = true) (hE : Lens E PM) (h : g_X10_cameAs a1 a2 S = some (r, S')) : Cn g B n yX10_cameAs cX10_cameAs 8 (some .int) 5 [vR 56, vI (a1), vI (a2)] (E S) (QcI g B n r (E S')) := by
  refine Cn.of (by decide +kernel) (Nat.le_of_ble_eq_true rfl) (fun X hg hnl hX hR => ?_)
  subst hg
  have hX : Ctx X cX10_cameAs "TelegramFeelingsModel" 5 := hX
  unfold g_X10_cameAs at h
  show JW X B n 0 0 0 [(0, vR 56), (1, vI (a1)), (2, vI (a2))] [] (E S) (QM X (QcI (gX X) B n r (E S')))
  refine j_iload_n hX 1 dX10_cameAs_0 rfl rfl ?_
  obtain ⟨x1, h1, h⟩ := bs h
  refine j_callSI hX mwX10_isShelf msX10_isShelf wd1337 hyX10_isShelf (by omega) (by decide) ⟨Nat.zero_le _, Nat.zero_le _⟩ dX10_cameAs_1 (s_X10_isShelf hfl h1) npX10_isShelf rfl (Nat.le_of_ble_eq_true rfl) ?_
  refine j_if_eq hX (tgt := 11) dX10_cameAs_4 (by decide) (fun hc => ?_) (fun hc => ?_)
  · rw [if_pos hc] at h
    refine j_iconst hX dX10_cameAs_11 (rc rfl) ?_
    cases h
    exact j_iret hX hR dX10_cameAs_12
  · rw [if_neg hc] at h
    refine j_iload_n hX 2 dX10_cameAs_7 rfl rfl ?_
    refine j_if_ge hX (tgt := 13) dX10_cameAs_8 (by decide) (fun hc => ?_) (fun hc => ?_)
    · rw [if_pos hc] at h
      refine j_aload_n hX 0 dX10_cameAs_13 rfl rfl ?_
      refine j_iload_n hX 1 dX10_cameAs_14 rfl rfl ?_
      refine j_iconst hX dX10_cameAs_15 (rc rfl) ?_
      obtain ⟨x2, h1, h⟩ := bs h
      refine j_callVI hX mwX10_rowFault miX10_rowFault wd1475 cbX10 ty56 hyX10_rowFault (by omega) (by decide) ⟨Nat.zero_le _, Nat.zero_le _⟩ dX10_cameAs_16 (s_X10_rowFault hfl hE h1) npX10_rowFault rfl (Nat.le_of_ble_eq_true rfl) ?_
      refine j_istore_n (L' := [(3, vI (x2)), (0, vR 56), (1, vI (a1)), (2, vI (a2))]) hX dX10_cameAs_19 rfl hnl (by decide) rfl ?_
      refine j_iload_n hX 0 dX10_cameAs_20 rfl rfl ?_
      refine j_if_ge hX (tgt := 26) dX10_cameAs_21 (by decide) (fun hc => ?_) (fun hc => ?_)
      · rw [if_pos hc] at h
        refine j_aload_n hX 1 dX10_cameAs_26 rfl rfl ?_
        refine j_iload_n hX 2 dX10_cameAs_27 rfl rfl ?_
        obtain ⟨S3, h1, h⟩ := bs h
        refine j_callVV hX mwX10_layFirst miX10_layFirst wd1569 cbX10 ty56 hyX10_layFirst (by omega) (by decide) ⟨Nat.zero_le _, Nat.zero_le _⟩ dX10_cameAs_28 (s_X10_layFirst hfl hE h1) npX10_layFirst rfl (Nat.le_of_ble_eq_true rfl) ?_
        refine j_aload_n hX 1 dX10_cameAs_31 rfl rfl ?_
        refine j_iconst hX dX10_cameAs_32 (rc rfl) ?_
        obtain ⟨S4, h1, h⟩ := bs h
        refine j_callVV hX mwX10_findErrors miX10_findErrors wd1573 cbX10 ty56 hyX10_findErrors (by omega) (by decide) ⟨Nat.zero_le _, Nat.zero_le _⟩ dX10_cameAs_33 (s_X10_findErrors hfl hE h1) npX10_findErrors rfl (Nat.le_of_ble_eq_true rfl) ?_
        refine j_iload_n hX 3 dX10_cameAs_36 rfl rfl ?_
        refine j_aload_n hX 1 dX10_cameAs_37 rfl rfl ?_
        refine j_getI (k := 32) hX hE cbX10 ty56 pc56 (by decide) rfl wd1172 rfl dX10_cameAs_38 ?_
        refine j_icmp_ge hX (tgt := 61) dX10_cameAs_41 (by decide) (fun hc => ?_) (fun hc => ?_)
        · rw [if_pos hc] at h
          refine j_bipush hX dX10_cameAs_61 (rc rfl) (by decide) ?_
          cases h
          exact j_iret hX hR dX10_cameAs_63
        · rw [if_neg hc] at h
          refine j_aload_n hX 1 dX10_cameAs_44 rfl rfl ?_
          refine j_getS (k := 43) hX hfl cbX10 ty56 (by decide) rfl wd1183 rfl sb56_43 dX10_cameAs_45 ?_
          refine j_iconst hX dX10_cameAs_48 (rc rfl) ?_
          refine j_iconst hX dX10_cameAs_49 (rc rfl) ?_
          refine j_iconst hX dX10_cameAs_50 (rc rfl) ?_
          refine j_iconst hX dX10_cameAs_51 (rc rfl) ?_
          refine j_callSI hX mwX10_errAt msX10_errAt wd1577 hyX10_errAt (by omega) (by decide) ⟨Nat.zero_le _, Nat.zero_le _⟩ dX10_cameAs_52 (s_X10_errAt hfl rfl) npX10_errAt rfl (Nat.le_of_ble_eq_true rfl) ?_
          obtain ⟨x5, hv, h⟩ := bs h
          refine j_lald hX hE ty86 pc86 hv dX10_cameAs_55 ?_
          refine j_lconst (z := 0) hX dX10_cameAs_56 rfl (rcl rfl) ?_
          refine j_lcmp hX dX10_cameAs_57 ?_
          refine j_if_ne hX (tgt := 64) dX10_cameAs_58 (by decide) (fun hc => ?_) (fun hc => ?_)
          · rw [if_neg hc] at h
            refine j_iconst hX dX10_cameAs_64 (rc rfl) ?_
            refine j_istore (L' := [(4, vI (3)), (3, vI (x2)), (0, vR 56), (1, vI (a1)), (2, vI (a2))]) hX dX10_cameAs_65 hnl (by decide) rfl ?_
            refine j_iconst hX dX10_cameAs_67 (rc rfl) ?_
            refine j_istore (L' := [(5, vI (0)), (4, vI (3)), (3, vI (x2)), (0, vR 56), (1, vI (a1)), (2, vI (a2))]) hX dX10_cameAs_68 hnl (by decide) rfl ?_
            refine j_iconst hX dX10_cameAs_70 (rc rfl) ?_
            refine j_istore (L' := [(6, vI (0)), (5, vI (0)), (4, vI (3)), (3, vI (x2)), (0, vR 56), (1, vI (a1)), (2, vI (a2))]) hX dX10_cameAs_71 hnl (by decide) rfl ?_
            refine j_sub [4, 6, 2, 1, 0] rfl ?_
            refine sl_X10_cameAs_73 hX hR hfl hnl hE  _ _ _ _ _ h
          · rw [if_pos hc] at h
            refine j_bipush hX dX10_cameAs_61 (rc rfl) (by decide) ?_
            cases h
            exact j_iret hX hR dX10_cameAs_63
      · rw [if_neg hc] at h
        refine j_iload_n hX 0 dX10_cameAs_24 rfl rfl ?_
        cases h
        exact j_iret hX hR dX10_cameAs_25
    · rw [if_neg hc] at h
      refine j_iconst hX dX10_cameAs_11 (rc rfl) ?_
      cases h
      exact j_iret hX hR dX10_cameAs_12
theorem sl_X10_lowest_16 {X : K0} {B : Nat → Nat} {n : Nat} {M : Mem} {r : Int} (hX : Ctx X cX10_lowest "TelegramFeelingsModel" 1) (hR : CR X (some .long)) (hfl : (gX X).2.2.2.2 = true) (hnl : X.2.2.2.2.2.2.2.2.2.2.2.2.2.2 = 11) {k41 : Int → Option Int} {v0 : Int} {v2 : Int} {v4 : Int} (K41 : ∀ (v5 : Int), k41 v5 = some r → JW X B n 0 0 41 [(0, vL (v0)), (2, vL (v2)), (4, vI (v4)), (5, vL (v5))] [] (M) (QM X (QcL (gX X) B n r M))) : ∀ (fu : Nat) (v5 : Int) (v7 : Int), g_X10_lowest_L16 k41 v0 v2 v4 fu v5 v7 = some r → JW X B n 0 0 16 [(0, vL (v0)), (2, vL (v2)), (4, vI (v4)), (5, vL (v5)), (7, vL (v7))] [] (M) (QM X (QcL (gX X) B n r M)) := by
  intro fu
  induction fu with
  | zero =>
    intro v5 v7 h
    rw [g_X10_lowest_L16] at h
    cases h
  | succ fu ih =>
    intro v5 v7 h
    rw [g_X10_lowest_L16] at h
    refine j_lload hX 4 dX10_lowest_16 rfl ?_
    refine j_lconst (z := 0) hX dX10_lowest_18 rfl (rcl rfl) ?_
    refine j_lcmp hX dX10_lowest_19 ?_
    refine j_if_eq hX (tgt := 41) dX10_lowest_20 (by decide) (fun hc => ?_) (fun hc => ?_)
    · rw [if_pos hc] at h
      refine j_sub [0, 1, 2, 3] rfl ?_
      exact K41 _ h
    · rw [if_neg hc] at h
      refine j_lload hX 3 dX10_lowest_23 rfl ?_
      refine j_lload hX 4 dX10_lowest_25 rfl ?_
      obtain ⟨hz, h⟩ := chk_s h
      refine j_lrem hX dX10_lowest_27 hz ?_
      refine j_lstore (L' := [(9, vL (Int.tmod v5 v7)), (0, vL (v0)), (2, vL (v2)), (4, vI (v4)), (5, vL (v5)), (7, vL (v7))]) hX dX10_lowest_28 hnl (by decide) rfl ?_
      refine j_lload hX 5 dX10_lowest_30 rfl ?_
      refine j_lstore (L' := [(5, vL (v7)), (9, vL (Int.tmod v5 v7)), (0, vL (v0)), (2, vL (v2)), (4, vI (v4)), (7, vL (v7))]) hX dX10_lowest_32 hnl (by decide) rfl ?_
      refine j_lload hX 1 dX10_lowest_34 rfl ?_
      refine j_lstore (L' := [(7, vL (Int.tmod v5 v7)), (5, vL (v7)), (9, vL (Int.tmod v5 v7)), (0, vL (v0)), (2, vL (v2)), (4, vI (v4))]) hX dX10_lowest_36 hnl (by decide) rfl ?_
      refine j_goto hX (tgt := 16) dX10_lowest_38 (by decide) ?_
      refine j_sub [3, 4, 5, 1, 0] rfl ?_
      exact ih _ _ h
theorem s_X10_lowest {g : G0} {B : Nat → Nat} {n : Nat} {M : Mem} {a1 : Int} {a2 : Int} {a3 : Int} {r : Int} (hfl : g.2.2.2.2 = true) (h : g_X10_lowest a1 a2 a3 = some r) : Cn g B n yX10_lowest cX10_lowest 11 (some .long) 1 [vL (a1), vL (a2), vI (a3)] M (QcL g B n r M) := by
  refine Cn.of (by decide +kernel) (Nat.le_of_ble_eq_true rfl) (fun X hg hnl hX hR => ?_)
  subst hg
  have hX : Ctx X cX10_lowest "TelegramFeelingsModel" 1 := hX
  unfold g_X10_lowest at h
  show JW X B n 0 0 0 [(0, vL (a1)), (2, vL (a2)), (4, vI (a3))] [] (M) (QM X (QcL (gX X) B n r M))
  refine j_lload_n hX 0 dX10_lowest_0 rfl rfl ?_
  refine j_lconst (z := 0) hX dX10_lowest_1 rfl (rcl rfl) ?_
  refine j_lcmp hX dX10_lowest_2 ?_
  refine j_if_ne hX (tgt := 10) dX10_lowest_3 (by decide) (fun hc => ?_) (fun hc => ?_)
  · rw [if_neg hc] at h
    refine j_lload_n hX 0 dX10_lowest_10 rfl rfl ?_
    refine j_lstore (L' := [(5, vL (a1)), (0, vL (a1)), (2, vL (a2)), (4, vI (a3))]) hX dX10_lowest_11 hnl (by decide) rfl ?_
    refine j_lload_n hX 2 dX10_lowest_13 rfl rfl ?_
    refine j_lstore (L' := [(7, vL (a2)), (5, vL (a1)), (0, vL (a1)), (2, vL (a2)), (4, vI (a3))]) hX dX10_lowest_14 hnl (by decide) rfl ?_
    refine j_sub [2, 3, 4, 1, 0] rfl ?_
    refine sl_X10_lowest_16 hX hR hfl hnl (fun y1 h => ?_) _ _ _ h
    refine j_iload hX 2 dX10_lowest_41 rfl ?_
    refine j_if_ne hX (tgt := 53) dX10_lowest_43 (by decide) (fun hc => ?_) (fun hc => ?_)
    · rw [if_neg hc] at h
      refine j_lload_n hX 1 dX10_lowest_53 rfl rfl ?_
      refine j_lload hX 3 dX10_lowest_54 rfl ?_
      obtain ⟨hz, h⟩ := chk_s h
      refine j_ldiv hX dX10_lowest_56 hz ?_
      cases h
      exact j_lret hX hR dX10_lowest_57
    · rw [if_pos hc] at h
      refine j_lload_n hX 0 dX10_lowest_46 rfl rfl ?_
      refine j_lload hX 3 dX10_lowest_47 rfl ?_
      obtain ⟨hz, h⟩ := chk_s h
      refine j_ldiv hX dX10_lowest_49 hz ?_
      refine j_goto hX (tgt := 57) dX10_lowest_50 (by decide) ?_
      cases h
      exact j_lret hX hR dX10_lowest_57
  · rw [if_pos hc] at h
    refine j_iload hX 2 dX10_lowest_6 rfl ?_
    refine j_i2l hX dX10_lowest_8 ?_
    cases h
    exact j_lret hX hR dX10_lowest_9
theorem s_X10_oddsWith {g : G0} {B : Nat → Nat} {n : Nat} {E : Mem → Mem} {a1 : Int} {S : Mem} {r : Int} {S' : Mem} (hfl : g.2.2.2.2 = true) (hE : Lens E PM) (h : g_X10_oddsWith a1 S = some (r, S')) : Cn g B n yX10_oddsWith cX10_oddsWith 2 (some .long) 5 [vR 56, vI (a1)] (E S) (QcL g B n r (E S')) := by
  refine Cn.of (by decide +kernel) (Nat.le_of_ble_eq_true rfl) (fun X hg hnl hX hR => ?_)
  subst hg
  have hX : Ctx X cX10_oddsWith "TelegramFeelingsModel" 5 := hX
  unfold g_X10_oddsWith at h
  show JW X B n 0 0 0 [(0, vR 56), (1, vI (a1))] [] (E S) (QM X (QcL (gX X) B n r (E S')))
  refine j_aload_n hX 0 dX10_oddsWith_0 rfl rfl ?_
  refine j_iload_n hX 1 dX10_oddsWith_1 rfl rfl ?_
  obtain ⟨S1, h1, h⟩ := bs h
  refine j_callVV hX mwX10_findErrors miX10_findErrors wd1573 cbX10 ty56 hyX10_findErrors (by omega) (by decide) ⟨Nat.zero_le _, Nat.zero_le _⟩ dX10_oddsWith_2 (s_X10_findErrors hfl hE h1) npX10_findErrors rfl (Nat.le_of_ble_eq_true rfl) ?_
  refine j_aload_n hX 0 dX10_oddsWith_5 rfl rfl ?_
  refine j_getS (k := 42) hX hfl cbX10 ty56 (by decide) rfl wd1182 rfl sb56_42 dX10_oddsWith_6 ?_
  refine j_iconst hX dX10_oddsWith_9 (rc rfl) ?_
  refine j_iconst hX dX10_oddsWith_10 (rc rfl) ?_
  refine j_iconst hX dX10_oddsWith_11 (rc rfl) ?_
  refine j_iconst hX dX10_oddsWith_12 (rc rfl) ?_
  refine j_callSI hX mwX10_errAt msX10_errAt wd1577 hyX10_errAt (by omega) (by decide) ⟨Nat.zero_le _, Nat.zero_le _⟩ dX10_oddsWith_13 (s_X10_errAt hfl rfl) npX10_errAt rfl (Nat.le_of_ble_eq_true rfl) ?_
  obtain ⟨x2, hv, h⟩ := bs h
  refine j_lald hX hE ty85 pc85 hv dX10_oddsWith_16 ?_
  cases h
  exact j_lret hX hR dX10_oddsWith_17
theorem s_X10_meant {g : G0} {B : Nat → Nat} {n : Nat} {E : Mem → Mem} {a1 : Int} {a2 : Int} {a3 : Int} {S : Mem} {r : Int} {S' : Mem} (hfl : g.2.2.2.2 = true) (hE : Lens E PM) (h : g_X10_meant a1 a2 a3 S = some (r, S')) : Cn g B n yX10_meant cX10_meant 6 (some .long) 6 [vR 56, vI (a1), vI (a2), vI (a3)] (E S) (QcL g B n r (E S')) := by
  refine Cn.of (by decide +kernel) (Nat.le_of_ble_eq_true rfl) (fun X hg hnl hX hR => ?_)
  subst hg
  have hX : Ctx X cX10_meant "TelegramFeelingsModel" 6 := hX
  unfold g_X10_meant at h
  show JW X B n 0 0 0 [(0, vR 56), (1, vI (a1)), (2, vI (a2)), (3, vI (a3))] [] (E S) (QM X (QcL (gX X) B n r (E S')))
  refine j_iload_n hX 1 dX10_meant_0 rfl rfl ?_
  obtain ⟨x1, h1, h⟩ := bs h
  refine j_callSI hX mwX10_isShelf msX10_isShelf wd1337 hyX10_isShelf (by omega) (by decide) ⟨Nat.zero_le _, Nat.zero_le _⟩ dX10_meant_1 (s_X10_isShelf hfl h1) npX10_isShelf rfl (Nat.le_of_ble_eq_true rfl) ?_
  refine j_if_eq hX (tgt := 34) dX10_meant_4 (by decide) (fun hc => ?_) (fun hc => ?_)
  · rw [if_pos hc] at h
    refine j_ldc2 (z := (-9223372036854775808)) hX wd1568 (by decide) dX10_meant_34 (rcl rfl) ?_
    cases h
    exact j_lret hX hR dX10_meant_37
  · rw [if_neg hc] at h
    refine j_iload_n hX 2 dX10_meant_7 rfl rfl ?_
    refine j_iconst hX dX10_meant_8 (rc rfl) ?_
    refine j_iconst hX dX10_meant_9 (rc rfl) ?_
    refine j_callSI hX mwX10_in msX10_in wd1326 hyX10_in (by omega) (by decide) ⟨Nat.zero_le _, Nat.zero_le _⟩ dX10_meant_10 (s_X10_in hfl rfl) npX10_in rfl (Nat.le_of_ble_eq_true rfl) ?_
    refine j_if_eq hX (tgt := 34) dX10_meant_13 (by decide) (fun hc => ?_) (fun hc => ?_)
    · rw [if_pos hc] at h
      refine j_ldc2 (z := (-9223372036854775808)) hX wd1568 (by decide) dX10_meant_34 (rcl rfl) ?_
      cases h
      exact j_lret hX hR dX10_meant_37
    · rw [if_neg hc] at h
      refine j_iload_n hX 3 dX10_meant_16 rfl rfl ?_
      refine j_iconst hX dX10_meant_17 (rc rfl) ?_
      refine j_iconst hX dX10_meant_18 (rc rfl) ?_
      refine j_callSI hX mwX10_in msX10_in wd1326 hyX10_in (by omega) (by decide) ⟨Nat.zero_le _, Nat.zero_le _⟩ dX10_meant_19 (s_X10_in hfl rfl) npX10_in rfl (Nat.le_of_ble_eq_true rfl) ?_
      refine j_if_eq hX (tgt := 34) dX10_meant_22 (by decide) (fun hc => ?_) (fun hc => ?_)
      · rw [if_pos hc] at h
        refine j_ldc2 (z := (-9223372036854775808)) hX wd1568 (by decide) dX10_meant_34 (rcl rfl) ?_
        cases h
        exact j_lret hX hR dX10_meant_37
      · rw [if_neg hc] at h
        refine j_aload_n hX 0 dX10_meant_25 rfl rfl ?_
        refine j_iload_n hX 1 dX10_meant_26 rfl rfl ?_
        refine j_iconst hX dX10_meant_27 (rc rfl) ?_
        obtain ⟨x2, h1, h⟩ := bs h
        refine j_callVI hX mwX10_rowFault miX10_rowFault wd1475 cbX10 ty56 hyX10_rowFault (by omega) (by decide) ⟨Nat.zero_le _, Nat.zero_le _⟩ dX10_meant_28 (s_X10_rowFault hfl hE h1) npX10_rowFault rfl (Nat.le_of_ble_eq_true rfl) ?_
        refine j_if_ge hX (tgt := 38) dX10_meant_31 (by decide) (fun hc => ?_) (fun hc => ?_)
        · rw [if_pos hc] at h
          refine j_aload_n hX 0 dX10_meant_38 rfl rfl ?_
          refine j_iload_n hX 1 dX10_meant_39 rfl rfl ?_
          obtain ⟨S3, h1, h⟩ := bs h
          refine j_callVV hX mwX10_layFirst miX10_layFirst wd1569 cbX10 ty56 hyX10_layFirst (by omega) (by decide) ⟨Nat.zero_le _, Nat.zero_le _⟩ dX10_meant_40 (s_X10_layFirst hfl hE h1) npX10_layFirst rfl (Nat.le_of_ble_eq_true rfl) ?_
          refine j_aload_n hX 0 dX10_meant_43 rfl rfl ?_
          refine j_iload_n hX 2 dX10_meant_44 rfl rfl ?_
          obtain ⟨x5, S4, h1, h⟩ := bd2_s h
          refine j_callVL hX mwX10_oddsWith miX10_oddsWith wd1604 cbX10 ty56 hyX10_oddsWith (by omega) (by decide) ⟨Nat.zero_le _, Nat.zero_le _⟩ dX10_meant_45 (s_X10_oddsWith hfl hE h1) npX10_oddsWith rfl (Nat.le_of_ble_eq_true rfl) ?_
          refine j_lstore (L' := [(4, vL (x5)), (0, vR 56), (1, vI (a1)), (2, vI (a2)), (3, vI (a3))]) hX dX10_meant_48 hnl (by decide) rfl ?_
          refine j_lload hX 0 dX10_meant_50 rfl ?_
          refine j_aload_n hX 1 dX10_meant_52 rfl rfl ?_
          refine j_iconst hX dX10_meant_53 (rc rfl) ?_
          obtain ⟨x7, S6, h1, h⟩ := bd2_s h
          refine j_callVL hX mwX10_oddsWith miX10_oddsWith wd1604 cbX10 ty56 hyX10_oddsWith (by omega) (by decide) ⟨Nat.zero_le _, Nat.zero_le _⟩ dX10_meant_54 (s_X10_oddsWith hfl hE h1) npX10_oddsWith rfl (Nat.le_of_ble_eq_true rfl) ?_
          refine j_iload_n hX 4 dX10_meant_57 rfl rfl ?_
          obtain ⟨x8, h1, h⟩ := bs h
          refine j_callSL hX mwX10_lowest msX10_lowest wd1608 hyX10_lowest (by omega) (by decide) ⟨Nat.zero_le _, Nat.zero_le _⟩ dX10_meant_58 (s_X10_lowest hfl h1) npX10_lowest rfl (Nat.le_of_ble_eq_true rfl) ?_
          cases h
          exact j_lret hX hR dX10_meant_61
        · rw [if_neg hc] at h
          refine j_ldc2 (z := (-9223372036854775808)) hX wd1568 (by decide) dX10_meant_34 (rcl rfl) ?_
          cases h
          exact j_lret hX hR dX10_meant_37
theorem sl_X10_certain_39 {X : K0} {B : Nat → Nat} {n : Nat} {E : Mem → Mem} {r : Int} {S' : Mem} (hX : Ctx X cX10_certain "TelegramFeelingsModel" 6) (hR : CR X (some .int)) (hfl : (gX X).2.2.2.2 = true) (hnl : X.2.2.2.2.2.2.2.2.2.2.2.2.2.2 = 7) (hE : Lens E PM)  {v3 : Int}  : ∀ (fu : Nat) (v5 : Int) (v6 : Int) (S : Mem), g_X10_certain_L39 v3 fu v5 v6 S = some (r, S') → JW X B n 0 0 39 [(0, vR 56), (3, vL (v3)), (5, vI (v5)), (6, vI (v6))] [] (E S) (QM X (QcI (gX X) B n r (E S'))) := by
  intro fu
  induction fu with
  | zero =>
    intro v5 v6 S h
    rw [g_X10_certain_L39] at h
    cases h
  | succ fu ih =>
    intro v5 v6 S h
    rw [g_X10_certain_L39] at h
    refine j_iload hX 3 dX10_certain_39 rfl ?_
    refine j_bipush hX dX10_certain_41 (rc rfl) (by decide) ?_
    refine j_icmp_ge hX (tgt := 78) dX10_certain_43 (by decide) (fun hc => ?_) (fun hc => ?_)
    · rw [if_pos hc] at h
      refine j_iload hX 2 dX10_certain_78 rfl ?_
      cases h
      exact j_iret hX hR dX10_certain_80
    · rw [if_neg hc] at h
      refine j_lload_n hX 1 dX10_certain_46 rfl rfl ?_
      refine j_lconst (z := 0) hX dX10_certain_47 rfl (rcl rfl) ?_
      refine j_lcmp hX dX10_certain_48 ?_
      refine j_if_le hX (tgt := 72) dX10_certain_49 (by decide) (fun hc => ?_) (fun hc => ?_)
      · rw [if_pos hc] at h
        refine j_iinc (L' := [(6, vI (w32 (v6 + 1))), (0, vR 56), (3, vL (v3)), (5, vI (v5))]) hX 3 dX10_certain_72 hnl (by decide) rfl rfl ?_
        refine j_goto hX (tgt := 39) dX10_certain_75 (by decide) ?_
        refine j_sub [1, 2, 3, 0] rfl ?_
        exact ih _ _ _ h
      · rw [if_neg hc] at h
        refine j_aload_n hX 0 dX10_certain_52 rfl rfl ?_
        refine j_iload hX 3 dX10_certain_53 rfl ?_
        obtain ⟨x7, S6, h1, h⟩ := bd2_s h
        refine j_callVL hX mwX10_oddsWith miX10_oddsWith wd1604 cbX10 ty56 hyX10_oddsWith (by omega) (by decide) ⟨Nat.zero_le _, Nat.zero_le _⟩ dX10_certain_55 (s_X10_oddsWith hfl hE h1) npX10_oddsWith rfl (Nat.le_of_ble_eq_true rfl) ?_
        refine j_lload_n hX 1 dX10_certain_58 rfl rfl ?_
        refine j_lcmp hX dX10_certain_59 ?_
        refine j_if_ne hX (tgt := 72) dX10_certain_60 (by decide) (fun hc => ?_) (fun hc => ?_)
        · rw [if_neg hc] at h
          refine j_iinc (L' := [(6, vI (w32 (v6 + 1))), (0, vR 56), (3, vL (v3)), (5, vI (v5))]) hX 3 dX10_certain_72 hnl (by decide) rfl rfl ?_
          refine j_goto hX (tgt := 39) dX10_certain_75 (by decide) ?_
          refine j_sub [1, 2, 3, 0] rfl ?_
          exact ih _ _ _ h
        · rw [if_pos hc] at h
          refine j_iload hX 2 dX10_certain_63 rfl ?_
          refine j_iconst hX dX10_certain_65 (rc rfl) ?_
          refine j_iload hX 3 dX10_certain_66 rfl ?_
          refine j_ishl hX dX10_certain_68 ?_
          refine j_ior hX dX10_certain_69 ?_
          refine j_istore (L' := [(5, vI (o_or v5 (o_shl 1 v6))), (0, vR 56), (3, vL (v3)), (6, vI (v6))]) hX dX10_certain_70 hnl (by decide) rfl ?_
          refine j_iinc (L' := [(6, vI (w32 (v6 + 1))), (5, vI (o_or v5 (o_shl 1 v6))), (0, vR 56), (3, vL (v3))]) hX 3 dX10_certain_72 hnl (by decide) rfl rfl ?_
          refine j_goto hX (tgt := 39) dX10_certain_75 (by decide) ?_
          refine j_sub [2, 3, 1, 0] rfl ?_
          exact ih _ _ _ h
theorem s_X10_certain {g : G0} {B : Nat → Nat} {n : Nat} {E : Mem → Mem} {a1 : Int} {S : Mem} {r : Int} {S' : Mem} (hfl : g.2.2.2.2 = true) (hE : Lens E PM) (h : g_X10_certain a1 S = some (r, S')) : Cn g B n yX10_certain cX10_certain 7 (some .int) 6 [vR 56, vI (a1)] (E S) (QcI g B n r (E S')) := by
  refine Cn.of (by decide +kernel) (Nat.le_of_ble_eq_true rfl) (fun X hg hnl hX hR => ?_)
  subst hg
  have hX : Ctx X cX10_certain "TelegramFeelingsModel" 6 := hX
  unfold g_X10_certain at h
  show JW X B n 0 0 0 [(0, vR 56), (1, vI (a1))] [] (E S) (QM X (QcI (gX X) B n r (E S')))
  refine j_iload_n hX 1 dX10_certain_0 rfl rfl ?_
  obtain ⟨x1, h1, h⟩ := bs h
  refine j_callSI hX mwX10_isShelf msX10_isShelf wd1337 hyX10_isShelf (by omega) (by decide) ⟨Nat.zero_le _, Nat.zero_le _⟩ dX10_certain_1 (s_X10_isShelf hfl h1) npX10_isShelf rfl (Nat.le_of_ble_eq_true rfl) ?_
  refine j_if_ne hX (tgt := 9) dX10_certain_4 (by decide) (fun hc => ?_) (fun hc => ?_)
  · rw [if_neg hc] at h
    refine j_aload_n hX 0 dX10_certain_9 rfl rfl ?_
    refine j_iload_n hX 1 dX10_certain_10 rfl rfl ?_
    refine j_iconst hX dX10_certain_11 (rc rfl) ?_
    obtain ⟨x2, h1, h⟩ := bs h
    refine j_callVI hX mwX10_rowFault miX10_rowFault wd1475 cbX10 ty56 hyX10_rowFault (by omega) (by decide) ⟨Nat.zero_le _, Nat.zero_le _⟩ dX10_certain_12 (s_X10_rowFault hfl hE h1) npX10_rowFault rfl (Nat.le_of_ble_eq_true rfl) ?_
    refine j_istore_n (L' := [(2, vI (x2)), (0, vR 56), (1, vI (a1))]) hX dX10_certain_15 rfl hnl (by decide) rfl ?_
    refine j_iload_n hX 0 dX10_certain_16 rfl rfl ?_
    refine j_if_ge hX (tgt := 22) dX10_certain_17 (by decide) (fun hc => ?_) (fun hc => ?_)
    · rw [if_pos hc] at h
      refine j_aload_n hX 1 dX10_certain_22 rfl rfl ?_
      refine j_iload_n hX 2 dX10_certain_23 rfl rfl ?_
      obtain ⟨S3, h1, h⟩ := bs h
      refine j_callVV hX mwX10_layFirst miX10_layFirst wd1569 cbX10 ty56 hyX10_layFirst (by omega) (by decide) ⟨Nat.zero_le _, Nat.zero_le _⟩ dX10_certain_24 (s_X10_layFirst hfl hE h1) npX10_layFirst rfl (Nat.le_of_ble_eq_true rfl) ?_
      refine j_aload_n hX 1 dX10_certain_27 rfl rfl ?_
      refine j_iconst hX dX10_certain_28 (rc rfl) ?_
      obtain ⟨x5, S4, h1, h⟩ := bd2_s h
      refine j_callVL hX mwX10_oddsWith miX10_oddsWith wd1604 cbX10 ty56 hyX10_oddsWith (by omega) (by decide) ⟨Nat.zero_le _, Nat.zero_le _⟩ dX10_certain_29 (s_X10_oddsWith hfl hE h1) npX10_oddsWith rfl (Nat.le_of_ble_eq_true rfl) ?_
      refine j_lstore_n (L' := [(3, vL (x5)), (2, vI (x2)), (0, vR 56), (1, vI (a1))]) hX dX10_certain_32 rfl hnl (by decide) rfl ?_
      refine j_iconst hX dX10_certain_33 (rc rfl) ?_
      refine j_istore (L' := [(5, vI (0)), (3, vL (x5)), (2, vI (x2)), (0, vR 56), (1, vI (a1))]) hX dX10_certain_34 hnl (by decide) rfl ?_
      refine j_iconst hX dX10_certain_36 (rc rfl) ?_
      refine j_istore (L' := [(6, vI (0)), (5, vI (0)), (3, vL (x5)), (2, vI (x2)), (0, vR 56), (1, vI (a1))]) hX dX10_certain_37 hnl (by decide) rfl ?_
      refine j_sub [4, 2, 1, 0] rfl ?_
      refine sl_X10_certain_39 hX hR hfl hnl hE  _ _ _ _ h
    · rw [if_neg hc] at h
      refine j_iload_n hX 0 dX10_certain_20 rfl rfl ?_
      cases h
      exact j_iret hX hR dX10_certain_21
  · rw [if_pos hc] at h
    refine j_iconst hX dX10_certain_7 (rc rfl) ?_
    cases h
    exact j_iret hX hR dX10_certain_8
theorem sl_X10_safe_48 {X : K0} {B : Nat → Nat} {n : Nat} {E : Mem → Mem} {r : Int} {S' : Mem} (hX : Ctx X cX10_safe "TelegramFeelingsModel" 5) (hR : CR X (some .long)) (hfl : (gX X).2.2.2.2 = true) (hnl : X.2.2.2.2.2.2.2.2.2.2.2.2.2.2 = 14) (hE : Lens E PM) {k71 : Int → Mem → Option (Int × Mem)} {v2 : Int} {v3 : Int} {v4 : Int} (K71 : ∀ (v6 : Int) (S : Mem), k71 v6 S = some (r, S') → JW X B n 0 0 71 [(0, vR 56), (2, vI (v2)), (3, vI (v3)), (4, vL (v4)), (6, vL (v6))] [] (E S) (QM X (QcL (gX X) B n r (E S')))) : ∀ (fu : Nat) (v6 : Int) (v8 : Int) (S : Mem), g_X10_safe_L48 k71 v2 v3 v4 fu v6 v8 S = some (r, S') → JW X B n 0 0 48 [(0, vR 56), (2, vI (v2)), (3, vI (v3)), (4, vL (v4)), (6, vL (v6)), (8, vI (v8))] [] (E S) (QM X (QcL (gX X) B n r (E S'))) := by
  intro fu
  induction fu with
  | zero =>
    intro v6 v8 S h
    rw [g_X10_safe_L48] at h
    cases h
  | succ fu ih =>
    intro v6 v8 S h
    rw [g_X10_safe_L48] at h
    refine j_iload hX 5 dX10_safe_48 rfl ?_
    refine j_aload_n hX 0 dX10_safe_50 rfl rfl ?_
    refine j_getI (k := 32) hX hE cbX10 ty56 pc56 (by decide) rfl wd1172 rfl dX10_safe_51 ?_
    refine j_icmp_ge hX (tgt := 71) dX10_safe_54 (by decide) (fun hc => ?_) (fun hc => ?_)
    · rw [if_pos hc] at h
      refine j_sub [0, 1, 2, 3, 4] rfl ?_
      exact K71 _ _ h
    · rw [if_neg hc] at h
      refine j_lload hX 4 dX10_safe_57 rfl ?_
      refine j_ldc2 (z := 12) hX wd1619 (by decide) dX10_safe_59 (rcl rfl) ?_
      refine j_lmul hX dX10_safe_62 ?_
      refine j_lstore (L' := [(6, vL (w64 (v6 * 12))), (0, vR 56), (2, vI (v2)), (3, vI (v3)), (4, vL (v4)), (8, vI (v8))]) hX dX10_safe_63 hnl (by decide) rfl ?_
      refine j_iinc (L' := [(8, vI (w32 (v8 + 1))), (6, vL (w64 (v6 * 12))), (0, vR 56), (2, vI (v2)), (3, vI (v3)), (4, vL (v4))]) hX 5 dX10_safe_65 hnl (by decide) rfl rfl ?_
      refine j_goto hX (tgt := 48) dX10_safe_68 (by decide) ?_
      refine j_sub [2, 3, 4, 5, 1, 0] rfl ?_
      exact ih _ _ _ h
theorem sj_X10_safe_148 {X : K0} {B : Nat → Nat} {n : Nat} {E : Mem → Mem} {r : Int} {S' : Mem} (hX : Ctx X cX10_safe "TelegramFeelingsModel" 5) (hR : CR X (some .long)) (hfl : (gX X).2.2.2.2 = true) (hnl : X.2.2.2.2.2.2.2.2.2.2.2.2.2.2 = 14) (hE : Lens E PM) {c : Int → Int → Int → Mem → Option (Int × Mem)}   {v2 : Int} {v3 : Int} {v4 : Int} {v6 : Int} {v8 : Int} {v11 : Int} {v12 : Int} {v13 : Int} {s0 : Int} {s1 : Int} {S : Mem} (Hc : ∀ (v9 : Int) (v11 : Int) (v12 : Int) (S : Mem), c v9 v11 v12 S = some (r, S') → JW X B n 0 0 94 [(0, vR 56), (2, vI (v2)), (3, vI (v3)), (4, vL (v4)), (6, vL (v6)), (8, vI (v8)), (9, vL (v9)), (11, vI (v11)), (12, vI (v12))] [] (E S) (QM X (QcL (gX X) B n r (E S')))) (h : g_X10_safe_J148 c v2 v3 v4 v6 v8 v11 v12 v13 s0 s1 S = some (r, S')) : JW X B n 0 0 148 [(0, vR 56), (2, vI (v2)), (3, vI (v3)), (4, vL (v4)), (6, vL (v6)), (8, vI (v8)), (11, vI (v11)), (12, vI (v12)), (13, vI (v13))] [vL (s1), vL (s0)] (E S) (QM X (QcL (gX X) B n r (E S'))) := by
  unfold g_X10_safe_J148 at h
  refine j_lmul hX dX10_safe_148 ?_
  refine j_lstore (L' := [(9, vL (w64 (s0 * s1))), (0, vR 56), (2, vI (v2)), (3, vI (v3)), (4, vL (v4)), (6, vL (v6)), (8, vI (v8)), (11, vI (v11)), (12, vI (v12)), (13, vI (v13))]) hX dX10_safe_149 hnl (by decide) rfl ?_
  refine j_iload hX 7 dX10_safe_151 rfl ?_
  refine j_aload_n hX 1 dX10_safe_153 rfl rfl ?_
  refine j_getS (k := 3) hX hfl cbX10 ty56 (by decide) rfl wd1143 rfl sb56_3 dX10_safe_154 ?_
  refine j_iload hX 9 dX10_safe_157 rfl ?_
  refine j_if_eq hX (tgt := 177) dX10_safe_159 (by decide) (fun hc => ?_) (fun hc => ?_)
  · rw [if_pos hc] at h
    refine j_aload_n hX 1 dX10_safe_177 rfl rfl ?_
    refine j_getS (k := 31) hX hfl cbX10 ty56 (by decide) rfl wd1171 rfl sb56_31 dX10_safe_178 ?_
    refine j_iload hX 8 dX10_safe_181 rfl ?_
    obtain ⟨x8, hv, h⟩ := bs h
    refine j_iald hX hE ty77 pc77 hv dX10_safe_183 ?_
    obtain ⟨x9, hv, h⟩ := bs h
    refine j_iald hX hE ty58 pc58 hv dX10_safe_184 ?_
    refine j_ior hX dX10_safe_185 ?_
    refine j_istore (L' := [(11, vI (o_or v11 x9)), (9, vL (w64 (s0 * s1))), (0, vR 56), (2, vI (v2)), (3, vI (v3)), (4, vL (v4)), (6, vL (v6)), (8, vI (v8)), (12, vI (v12)), (13, vI (v13))]) hX dX10_safe_186 hnl (by decide) rfl ?_
    refine j_iinc (L' := [(12, vI (w32 (v12 + 1))), (11, vI (o_or v11 x9)), (9, vL (w64 (s0 * s1))), (0, vR 56), (2, vI (v2)), (3, vI (v3)), (4, vL (v4)), (6, vL (v6)), (8, vI (v8)), (13, vI (v13))]) hX 8 dX10_safe_188 hnl (by decide) rfl rfl ?_
    refine j_goto hX (tgt := 94) dX10_safe_191 (by decide) ?_
    refine j_sub [3, 4, 5, 6, 7, 8, 2, 1, 0] rfl ?_
    exact Hc _ _ _ _ h
  · rw [if_neg hc] at h
    refine j_aload_n hX 1 dX10_safe_162 rfl rfl ?_
    refine j_getS (k := 6) hX hfl cbX10 ty56 (by decide) rfl wd1146 rfl sb56_6 dX10_safe_163 ?_
    refine j_aload_n hX 1 dX10_safe_166 rfl rfl ?_
    refine j_getS (k := 31) hX hfl cbX10 ty56 (by decide) rfl wd1171 rfl sb56_31 dX10_safe_167 ?_
    refine j_iload hX 8 dX10_safe_170 rfl ?_
    obtain ⟨x10, hv, h⟩ := bs h
    refine j_iald hX hE ty77 pc77 hv dX10_safe_172 ?_
    obtain ⟨x11, hv, h⟩ := bs h
    refine j_iald hX hE ty61 pc61 hv dX10_safe_173 ?_
    refine j_goto hX (tgt := 184) dX10_safe_174 (by decide) ?_
    obtain ⟨x12, hv, h⟩ := bs h
    refine j_iald hX hE ty58 pc58 hv dX10_safe_184 ?_
    refine j_ior hX dX10_safe_185 ?_
    refine j_istore (L' := [(11, vI (o_or v11 x12)), (9, vL (w64 (s0 * s1))), (0, vR 56), (2, vI (v2)), (3, vI (v3)), (4, vL (v4)), (6, vL (v6)), (8, vI (v8)), (12, vI (v12)), (13, vI (v13))]) hX dX10_safe_186 hnl (by decide) rfl ?_
    refine j_iinc (L' := [(12, vI (w32 (v12 + 1))), (11, vI (o_or v11 x12)), (9, vL (w64 (s0 * s1))), (0, vR 56), (2, vI (v2)), (3, vI (v3)), (4, vL (v4)), (6, vL (v6)), (8, vI (v8)), (13, vI (v13))]) hX 8 dX10_safe_188 hnl (by decide) rfl rfl ?_
    refine j_goto hX (tgt := 94) dX10_safe_191 (by decide) ?_
    refine j_sub [3, 4, 5, 6, 7, 8, 2, 1, 0] rfl ?_
    exact Hc _ _ _ _ h
theorem sj_X10_safe_119 {X : K0} {B : Nat → Nat} {n : Nat} {E : Mem → Mem} {r : Int} {S' : Mem} (hX : Ctx X cX10_safe "TelegramFeelingsModel" 5) (hR : CR X (some .long)) (hfl : (gX X).2.2.2.2 = true) (hnl : X.2.2.2.2.2.2.2.2.2.2.2.2.2.2 = 14) (hE : Lens E PM) {c : Int → Int → Int → Mem → Option (Int × Mem)}   {v2 : Int} {v3 : Int} {v4 : Int} {v6 : Int} {v8 : Int} {v9 : Int} {v11 : Int} {v12 : Int} {s0 : Int} {S : Mem} (Hc : ∀ (v9 : Int) (v11 : Int) (v12 : Int) (S : Mem), c v9 v11 v12 S = some (r, S') → JW X B n 0 0 94 [(0, vR 56), (2, vI (v2)), (3, vI (v3)), (4, vL (v4)), (6, vL (v6)), (8, vI (v8)), (9, vL (v9)), (11, vI (v11)), (12, vI (v12))] [] (E S) (QM X (QcL (gX X) B n r (E S')))) (h : g_X10_safe_J119 c v2 v3 v4 v6 v8 v9 v11 v12 s0 S = some (r, S')) : JW X B n 0 0 119 [(0, vR 56), (2, vI (v2)), (3, vI (v3)), (4, vL (v4)), (6, vL (v6)), (8, vI (v8)), (9, vL (v9)), (11, vI (v11)), (12, vI (v12))] [vI (s0)] (E S) (QM X (QcL (gX X) B n r (E S'))) := by
  unfold g_X10_safe_J119 at h
  refine j_istore (L' := [(13, vI (s0)), (0, vR 56), (2, vI (v2)), (3, vI (v3)), (4, vL (v4)), (6, vL (v6)), (8, vI (v8)), (9, vL (v9)), (11, vI (v11)), (12, vI (v12))]) hX dX10_safe_119 hnl (by decide) rfl ?_
  refine j_lload hX 7 dX10_safe_121 rfl ?_
  refine j_iload hX 0 dX10_safe_123 rfl ?_
  refine j_if_eq hX (tgt := 138) dX10_safe_125 (by decide) (fun hc => ?_) (fun hc => ?_)
  · rw [if_pos hc] at h
    refine j_bipush hX dX10_safe_138 (rc rfl) (by decide) ?_
    refine j_aload_n hX 1 dX10_safe_140 rfl rfl ?_
    refine j_getS (k := 10) hX hfl cbX10 ty56 (by decide) rfl wd1150 rfl sb56_10 dX10_safe_141 ?_
    refine j_iconst hX dX10_safe_144 (rc rfl) ?_
    refine j_iald hX hE ty64 pc64 (ldk_c (k := 1) (by decide)) dX10_safe_145 ?_
    refine j_isub hX dX10_safe_146 ?_
    refine j_i2l hX dX10_safe_147 ?_
    refine j_sub [1, 2, 3, 4, 5, 6, 8, 9, 0] rfl ?_
    exact sj_X10_safe_148 hX hR hfl hnl hE Hc  h
  · rw [if_neg hc] at h
    refine j_aload_n hX 1 dX10_safe_128 rfl rfl ?_
    refine j_getS (k := 10) hX hfl cbX10 ty56 (by decide) rfl wd1150 rfl sb56_10 dX10_safe_129 ?_
    refine j_iconst hX dX10_safe_132 (rc rfl) ?_
    refine j_iald hX hE ty64 pc64 (ldk_c (k := 1) (by decide)) dX10_safe_133 ?_
    refine j_i2l hX dX10_safe_134 ?_
    refine j_goto hX (tgt := 148) dX10_safe_135 (by decide) ?_
    refine j_sub [1, 2, 3, 4, 5, 6, 8, 9, 0] rfl ?_
    exact sj_X10_safe_148 hX hR hfl hnl hE Hc  h
theorem sl_X10_safe_94 {X : K0} {B : Nat → Nat} {n : Nat} {E : Mem → Mem} {r : Int} {S' : Mem} (hX : Ctx X cX10_safe "TelegramFeelingsModel" 5) (hR : CR X (some .long)) (hfl : (gX X).2.2.2.2 = true) (hnl : X.2.2.2.2.2.2.2.2.2.2.2.2.2.2 = 14) (hE : Lens E PM) {k194 : Int → Int → Mem → Option (Int × Mem)} {v2 : Int} {v3 : Int} {v4 : Int} {v6 : Int} {v8 : Int} (K194 : ∀ (v9 : Int) (v11 : Int) (S : Mem), k194 v9 v11 S = some (r, S') → JW X B n 0 0 194 [(0, vR 56), (2, vI (v2)), (3, vI (v3)), (4, vL (v4)), (6, vL (v6)), (8, vI (v8)), (9, vL (v9)), (11, vI (v11))] [] (E S) (QM X (QcL (gX X) B n r (E S')))) : ∀ (fu : Nat) (v9 : Int) (v11 : Int) (v12 : Int) (S : Mem), g_X10_safe_L94 k194 v2 v3 v4 v6 v8 fu v9 v11 v12 S = some (r, S') → JW X B n 0 0 94 [(0, vR 56), (2, vI (v2)), (3, vI (v3)), (4, vL (v4)), (6, vL (v6)), (8, vI (v8)), (9, vL (v9)), (11, vI (v11)), (12, vI (v12))] [] (E S) (QM X (QcL (gX X) B n r (E S'))) := by
  intro fu
  induction fu with
  | zero =>
    intro v9 v11 v12 S h
    rw [g_X10_safe_L94] at h
    cases h
  | succ fu ih =>
    intro v9 v11 v12 S h
    rw [g_X10_safe_L94] at h
    refine j_iload hX 8 dX10_safe_94 rfl ?_
    refine j_aload_n hX 0 dX10_safe_96 rfl rfl ?_
    refine j_getI (k := 32) hX hE cbX10 ty56 pc56 (by decide) rfl wd1172 rfl dX10_safe_97 ?_
    refine j_icmp_ge hX (tgt := 194) dX10_safe_100 (by decide) (fun hc => ?_) (fun hc => ?_)
    · rw [if_pos hc] at h
      refine j_sub [0, 1, 2, 3, 4, 5, 6, 7] rfl ?_
      exact K194 _ _ _ h
    · rw [if_neg hc] at h
      refine j_iload hX 5 dX10_safe_103 rfl ?_
      refine j_iload hX 8 dX10_safe_105 rfl ?_
      refine j_ishr hX dX10_safe_107 ?_
      refine j_iconst hX dX10_safe_108 (rc rfl) ?_
      refine j_iand hX dX10_safe_109 ?_
      refine j_iconst hX dX10_safe_110 (rc rfl) ?_
      refine j_icmp_ne hX (tgt := 118) dX10_safe_111 (by decide) (fun hc => ?_) (fun hc => ?_)
      · rw [if_neg hc] at h
        refine j_iconst hX dX10_safe_118 (rc rfl) ?_
        refine j_sub [0, 1, 2, 3, 4, 5, 6, 7, 8] rfl ?_
        exact sj_X10_safe_119 hX hR hfl hnl hE ih  h
      · rw [if_pos hc] at h
        refine j_iconst hX dX10_safe_114 (rc rfl) ?_
        refine j_goto hX (tgt := 119) dX10_safe_115 (by decide) ?_
        refine j_sub [0, 1, 2, 3, 4, 5, 6, 7, 8] rfl ?_
        exact sj_X10_safe_119 hX hR hfl hnl hE ih  h
theorem sl_X10_safe_74 {X : K0} {B : Nat → Nat} {n : Nat} {E : Mem → Mem} {r : Int} {S' : Mem} (hX : Ctx X cX10_safe "TelegramFeelingsModel" 5) (hR : CR X (some .long)) (hfl : (gX X).2.2.2.2 = true) (hnl : X.2.2.2.2.2.2.2.2.2.2.2.2.2.2 = 14) (hE : Lens E PM) {k213 : Int → Mem → Option (Int × Mem)} {v2 : Int} {v3 : Int} {v6 : Int} (K213 : ∀ (v4 : Int) (S : Mem), k213 v4 S = some (r, S') → JW X B n 0 0 213 [(2, vI (v2)), (4, vL (v4)), (6, vL (v6))] [] (E S) (QM X (QcL (gX X) B n r (E S')))) : ∀ (fu : Nat) (v4 : Int) (v8 : Int) (S : Mem), g_X10_safe_L74 k213 v2 v3 v6 fu v4 v8 S = some (r, S') → JW X B n 0 0 74 [(0, vR 56), (2, vI (v2)), (3, vI (v3)), (4, vL (v4)), (6, vL (v6)), (8, vI (v8))] [] (E S) (QM X (QcL (gX X) B n r (E S'))) := by
  intro fu
  induction fu with
  | zero =>
    intro v4 v8 S h
    rw [g_X10_safe_L74] at h
    cases h
  | succ fu ih =>
    intro v4 v8 S h
    rw [g_X10_safe_L74] at h
    refine j_iload hX 5 dX10_safe_74 rfl ?_
    refine j_iconst hX dX10_safe_76 (rc rfl) ?_
    refine j_aload_n hX 0 dX10_safe_77 rfl rfl ?_
    refine j_getI (k := 32) hX hE cbX10 ty56 pc56 (by decide) rfl wd1172 rfl dX10_safe_78 ?_
    refine j_ishl hX dX10_safe_81 ?_
    refine j_icmp_ge hX (tgt := 213) dX10_safe_82 (by decide) (fun hc => ?_) (fun hc => ?_)
    · rw [if_pos hc] at h
      refine j_sub [1, 3, 4] rfl ?_
      exact K213 _ _ h
    · rw [if_neg hc] at h
      refine j_lconst (z := 1) hX dX10_safe_85 rfl (rcl rfl) ?_
      refine j_lstore (L' := [(9, vL (1)), (0, vR 56), (2, vI (v2)), (3, vI (v3)), (4, vL (v4)), (6, vL (v6)), (8, vI (v8))]) hX dX10_safe_86 hnl (by decide) rfl ?_
      refine j_iconst hX dX10_safe_88 (rc rfl) ?_
      refine j_istore (L' := [(11, vI (0)), (9, vL (1)), (0, vR 56), (2, vI (v2)), (3, vI (v3)), (4, vL (v4)), (6, vL (v6)), (8, vI (v8))]) hX dX10_safe_89 hnl (by decide) rfl ?_
      refine j_iconst hX dX10_safe_91 (rc rfl) ?_
      refine j_istore (L' := [(12, vI (0)), (11, vI (0)), (9, vL (1)), (0, vR 56), (2, vI (v2)), (3, vI (v3)), (4, vL (v4)), (6, vL (v6)), (8, vI (v8))]) hX dX10_safe_92 hnl (by decide) rfl ?_
      refine j_sub [3, 4, 5, 6, 7, 8, 2, 1, 0] rfl ?_
      refine sl_X10_safe_94 hX hR hfl hnl hE (fun y15 y16 S14 h => ?_) _ _ _ _ _ h
      refine j_iload hX 7 dX10_safe_194 rfl ?_
      refine j_iload_n hX 2 dX10_safe_196 rfl rfl ?_
      refine j_icmp_ne hX (tgt := 207) dX10_safe_197 (by decide) (fun hc => ?_) (fun hc => ?_)
      · rw [if_neg hc] at h
        refine j_iinc (L' := [(8, vI (w32 (v8 + 1))), (0, vR 56), (2, vI (v2)), (3, vI (v3)), (4, vL (v4)), (6, vL (v6)), (9, vL (y15)), (11, vI (y16))]) hX 5 dX10_safe_207 hnl (by decide) rfl rfl ?_
        refine j_goto hX (tgt := 74) dX10_safe_210 (by decide) ?_
        refine j_sub [1, 2, 3, 4, 5, 0] rfl ?_
        exact ih _ _ _ h
      · rw [if_pos hc] at h
        refine j_lload hX 3 dX10_safe_200 rfl ?_
        refine j_lload hX 6 dX10_safe_202 rfl ?_
        refine j_ladd hX dX10_safe_204 ?_
        refine j_lstore (L' := [(4, vL (w64 (v4 + y15))), (0, vR 56), (2, vI (v2)), (3, vI (v3)), (6, vL (v6)), (8, vI (v8)), (9, vL (y15)), (11, vI (y16))]) hX dX10_safe_205 hnl (by decide) rfl ?_
        refine j_iinc (L' := [(8, vI (w32 (v8 + 1))), (4, vL (w64 (v4 + y15))), (0, vR 56), (2, vI (v2)), (3, vI (v3)), (6, vL (v6)), (9, vL (y15)), (11, vI (y16))]) hX 5 dX10_safe_207 hnl (by decide) rfl rfl ?_
        refine j_goto hX (tgt := 74) dX10_safe_210 (by decide) ?_
        refine j_sub [2, 3, 4, 1, 5, 0] rfl ?_
        exact ih _ _ _ h
theorem s_X10_safe {g : G0} {B : Nat → Nat} {n : Nat} {E : Mem → Mem} {a1 : Int} {a2 : Int} {S : Mem} {r : Int} {S' : Mem} (hfl : g.2.2.2.2 = true) (hE : Lens E PM) (h : g_X10_safe a1 a2 S = some (r, S')) : Cn g B n yX10_safe cX10_safe 14 (some .long) 5 [vR 56, vI (a1), vI (a2)] (E S) (QcL g B n r (E S')) := by
  refine Cn.of (by decide +kernel) (Nat.le_of_ble_eq_true rfl) (fun X hg hnl hX hR => ?_)
  subst hg
  have hX : Ctx X cX10_safe "TelegramFeelingsModel" 5 := hX
  unfold g_X10_safe at h
  show JW X B n 0 0 0 [(0, vR 56), (1, vI (a1)), (2, vI (a2))] [] (E S) (QM X (QcL (gX X) B n r (E S')))
  refine j_iload_n hX 1 dX10_safe_0 rfl rfl ?_
  obtain ⟨x1, h1, h⟩ := bs h
  refine j_callSI hX mwX10_isShelf msX10_isShelf wd1337 hyX10_isShelf (by omega) (by decide) ⟨Nat.zero_le _, Nat.zero_le _⟩ dX10_safe_1 (s_X10_isShelf hfl h1) npX10_isShelf rfl (Nat.le_of_ble_eq_true rfl) ?_
  refine j_if_eq hX (tgt := 25) dX10_safe_4 (by decide) (fun hc => ?_) (fun hc => ?_)
  · rw [if_pos hc] at h
    refine j_ldc2 (z := (-9223372036854775808)) hX wd1568 (by decide) dX10_safe_25 (rcl rfl) ?_
    cases h
    exact j_lret hX hR dX10_safe_28
  · rw [if_neg hc] at h
    refine j_iload_n hX 2 dX10_safe_7 rfl rfl ?_
    refine j_iconst hX dX10_safe_8 (rc rfl) ?_
    refine j_iconst hX dX10_safe_9 (rc rfl) ?_
    refine j_callSI hX mwX10_in msX10_in wd1326 hyX10_in (by omega) (by decide) ⟨Nat.zero_le _, Nat.zero_le _⟩ dX10_safe_10 (s_X10_in hfl rfl) npX10_in rfl (Nat.le_of_ble_eq_true rfl) ?_
    refine j_if_eq hX (tgt := 25) dX10_safe_13 (by decide) (fun hc => ?_) (fun hc => ?_)
    · rw [if_pos hc] at h
      refine j_ldc2 (z := (-9223372036854775808)) hX wd1568 (by decide) dX10_safe_25 (rcl rfl) ?_
      cases h
      exact j_lret hX hR dX10_safe_28
    · rw [if_neg hc] at h
      refine j_aload_n hX 0 dX10_safe_16 rfl rfl ?_
      refine j_iload_n hX 1 dX10_safe_17 rfl rfl ?_
      refine j_iconst hX dX10_safe_18 (rc rfl) ?_
      obtain ⟨x2, h1, h⟩ := bs h
      refine j_callVI hX mwX10_rowFault miX10_rowFault wd1475 cbX10 ty56 hyX10_rowFault (by omega) (by decide) ⟨Nat.zero_le _, Nat.zero_le _⟩ dX10_safe_19 (s_X10_rowFault hfl hE h1) npX10_rowFault rfl (Nat.le_of_ble_eq_true rfl) ?_
      refine j_if_ge hX (tgt := 29) dX10_safe_22 (by decide) (fun hc => ?_) (fun hc => ?_)
      · rw [if_pos hc] at h
        refine j_aload_n hX 0 dX10_safe_29 rfl rfl ?_
        refine j_iload_n hX 1 dX10_safe_30 rfl rfl ?_
        obtain ⟨S3, h1, h⟩ := bs h
        refine j_callVV hX mwX10_layFirst miX10_layFirst wd1569 cbX10 ty56 hyX10_layFirst (by omega) (by decide) ⟨Nat.zero_le _, Nat.zero_le _⟩ dX10_safe_31 (s_X10_layFirst hfl hE h1) npX10_layFirst rfl (Nat.le_of_ble_eq_true rfl) ?_
        refine j_aload_n hX 0 dX10_safe_34 rfl rfl ?_
        obtain ⟨x4, h1, h⟩ := bs h
        refine j_callVI hX mwX10_senseAll miX10_senseAll wd1504 cbX10 ty56 hyX10_senseAll (by omega) (by decide) ⟨Nat.zero_le _, Nat.zero_le _⟩ dX10_safe_35 (s_X10_senseAll hfl hE h1) npX10_senseAll rfl (Nat.le_of_ble_eq_true rfl) ?_
        refine j_istore_n (L' := [(3, vI (x4)), (0, vR 56), (1, vI (a1)), (2, vI (a2))]) hX dX10_safe_38 rfl hnl (by decide) rfl ?_
        refine j_lconst (z := 0) hX dX10_safe_39 rfl (rcl rfl) ?_
        refine j_lstore (L' := [(4, vL (0)), (3, vI (x4)), (0, vR 56), (1, vI (a1)), (2, vI (a2))]) hX dX10_safe_40 hnl (by decide) rfl ?_
        refine j_lconst (z := 1) hX dX10_safe_42 rfl (rcl rfl) ?_
        refine j_lstore (L' := [(6, vL (1)), (4, vL (0)), (3, vI (x4)), (0, vR 56), (1, vI (a1)), (2, vI (a2))]) hX dX10_safe_43 hnl (by decide) rfl ?_
        refine j_iconst hX dX10_safe_45 (rc rfl) ?_
        refine j_istore (L' := [(8, vI (0)), (6, vL (1)), (4, vL (0)), (3, vI (x4)), (0, vR 56), (1, vI (a1)), (2, vI (a2))]) hX dX10_safe_46 hnl (by decide) rfl ?_
        refine j_sub [4, 6, 3, 2, 1, 0] rfl ?_
        refine sl_X10_safe_48 hX hR hfl hnl hE (fun y6 S5 h => ?_) _ _ _ _ h
        refine j_iconst hX dX10_safe_71 (rc rfl) ?_
        refine j_istore (L' := [(8, vI (0)), (0, vR 56), (2, vI (a2)), (3, vI (x4)), (4, vL (0)), (6, vL (y6))]) hX dX10_safe_72 hnl (by decide) rfl ?_
        refine j_sub [1, 2, 3, 4, 5, 0] rfl ?_
        refine sl_X10_safe_74 hX hR hfl hnl hE (fun y18 S17 h => ?_) _ _ _ _ h
        refine j_lload hX 1 dX10_safe_213 rfl ?_
        refine j_lload hX 2 dX10_safe_215 rfl ?_
        refine j_iload_n hX 0 dX10_safe_217 rfl rfl ?_
        obtain ⟨x19, h1, h⟩ := bs h
        refine j_callSL hX mwX10_lowest msX10_lowest wd1608 hyX10_lowest (by omega) (by decide) ⟨Nat.zero_le _, Nat.zero_le _⟩ dX10_safe_218 (s_X10_lowest hfl h1) npX10_lowest rfl (Nat.le_of_ble_eq_true rfl) ?_
        cases h
        exact j_lret hX hR dX10_safe_221
      · rw [if_neg hc] at h
        refine j_ldc2 (z := (-9223372036854775808)) hX wd1568 (by decide) dX10_safe_25 (rcl rfl) ?_
        cases h
        exact j_lret hX hR dX10_safe_28
theorem sl_X10_unsigned_46 {X : K0} {B : Nat → Nat} {n : Nat} {E : Mem → Mem} {r : Int} {S' : Mem} (hX : Ctx X cX10_unsigned "TelegramFeelingsModel" 7) (hR : CR X (some .int)) (hfl : (gX X).2.2.2.2 = true) (hnl : X.2.2.2.2.2.2.2.2.2.2.2.2.2.2 = 7) (hE : Lens E PM) {k130 : Int → Int → Mem → Option (Int × Mem)} {v2 : Int} (K130 : ∀ (v4 : Int) (v5 : Int) (S : Mem), k130 v4 v5 S = some (r, S') → JW X B n 0 0 130 [(2, vI (v2)), (4, vI (v4)), (5, vI (v5))] [] (E S) (QM X (QcI (gX X) B n r (E S')))) : ∀ (fu : Nat) (v4 : Int) (v5 : Int) (v6 : Int) (S : Mem), g_X10_unsigned_L46 k130 v2 fu v4 v5 v6 S = some (r, S') → JW X B n 0 0 46 [(0, vR 56), (2, vI (v2)), (4, vI (v4)), (5, vI (v5)), (6, vI (v6))] [] (E S) (QM X (QcI (gX X) B n r (E S'))) := by
  intro fu
  induction fu with
  | zero =>
    intro v4 v5 v6 S h
    rw [g_X10_unsigned_L46] at h
    cases h
  | succ fu ih =>
    intro v4 v5 v6 S h
    rw [g_X10_unsigned_L46] at h
    refine j_iload hX 4 dX10_unsigned_46 rfl ?_
    refine j_aload_n hX 0 dX10_unsigned_48 rfl rfl ?_
    refine j_getI (k := 7) hX hE cbX10 ty56 pc56 (by decide) rfl wd1147 rfl dX10_unsigned_49 ?_
    refine j_icmp_ge hX (tgt := 130) dX10_unsigned_52 (by decide) (fun hc => ?_) (fun hc => ?_)
    · rw [if_pos hc] at h
      refine j_sub [1, 2, 3] rfl ?_
      exact K130 _ _ _ h
    · rw [if_neg hc] at h
      refine j_aload_n hX 0 dX10_unsigned_55 rfl rfl ?_
      obtain ⟨x4, h1, h⟩ := bs h
      refine j_callVI hX mwX10_senseAll miX10_senseAll wd1504 cbX10 ty56 hyX10_senseAll (by omega) (by decide) ⟨Nat.zero_le _, Nat.zero_le _⟩ dX10_unsigned_56 (s_X10_senseAll hfl hE h1) npX10_senseAll rfl (Nat.le_of_ble_eq_true rfl) ?_
      refine j_aload_n hX 0 dX10_unsigned_59 rfl rfl ?_
      refine j_getS (k := 9) hX hfl cbX10 ty56 (by decide) rfl wd1149 rfl sb56_9 dX10_unsigned_60 ?_
      refine j_iload hX 4 dX10_unsigned_63 rfl ?_
      obtain ⟨x5, hv, h⟩ := bs h
      refine j_iald hX hE ty63 pc63 hv dX10_unsigned_65 ?_
      refine j_iconst hX dX10_unsigned_66 (rc rfl) ?_
      refine j_ixor hX dX10_unsigned_67 ?_
      refine j_iand hX dX10_unsigned_68 ?_
      refine j_if_ne hX (tgt := 124) dX10_unsigned_69 (by decide) (fun hc => ?_) (fun hc => ?_)
      · rw [if_neg hc] at h
        refine j_iinc (L' := [(6, vI (w32 (v6 + 1))), (0, vR 56), (2, vI (v2)), (4, vI (v4)), (5, vI (v5))]) hX 4 dX10_unsigned_124 hnl (by decide) rfl rfl ?_
        refine j_goto hX (tgt := 46) dX10_unsigned_127 (by decide) ?_
        refine j_sub [1, 2, 3, 4, 0] rfl ?_
        exact ih _ _ _ _ h
      · rw [if_pos hc] at h
        refine j_aload_n hX 0 dX10_unsigned_72 rfl rfl ?_
        refine j_getS (k := 8) hX hfl cbX10 ty56 (by decide) rfl wd1148 rfl sb56_8 dX10_unsigned_73 ?_
        refine j_iload hX 4 dX10_unsigned_76 rfl ?_
        obtain ⟨x6, hv, h⟩ := bs h
        refine j_iald hX hE ty62 pc62 hv dX10_unsigned_78 ?_
        refine j_aload_n hX 0 dX10_unsigned_79 rfl rfl ?_
        obtain ⟨x8, S7, h1, h⟩ := bd2_s h
        refine j_callVI hX mwX10_priceAll miX10_priceAll wd1500 cbX10 ty56 hyX10_priceAll (by omega) (by decide) ⟨Nat.zero_le _, Nat.zero_le _⟩ dX10_unsigned_80 (s_X10_priceAll hfl hE h1) npX10_priceAll rfl (Nat.le_of_ble_eq_true rfl) ?_
        refine j_icmp_ge hX (tgt := 89) dX10_unsigned_83 (by decide) (fun hc => ?_) (fun hc => ?_)
        · rw [if_pos hc] at h
          refine j_iload hX 3 dX10_unsigned_89 rfl ?_
          refine j_iconst hX dX10_unsigned_91 (rc rfl) ?_
          refine j_iload hX 4 dX10_unsigned_92 rfl ?_
          refine j_ishl hX dX10_unsigned_94 ?_
          refine j_ior hX dX10_unsigned_95 ?_
          refine j_istore (L' := [(5, vI (o_or v5 (o_shl 1 v6))), (0, vR 56), (2, vI (v2)), (4, vI (v4)), (6, vI (v6))]) hX dX10_unsigned_96 hnl (by decide) rfl ?_
          refine j_iload hX 3 dX10_unsigned_98 rfl ?_
          refine j_if_lt hX (tgt := 120) dX10_unsigned_100 (by decide) (fun hc => ?_) (fun hc => ?_)
          · rw [if_pos hc] at h
            refine j_iload hX 4 dX10_unsigned_120 rfl ?_
            refine j_istore (L' := [(4, vI (v6)), (5, vI (o_or v5 (o_shl 1 v6))), (0, vR 56), (2, vI (v2)), (6, vI (v6))]) hX dX10_unsigned_122 hnl (by decide) rfl ?_
            refine j_iinc (L' := [(6, vI (w32 (v6 + 1))), (4, vI (v6)), (5, vI (o_or v5 (o_shl 1 v6))), (0, vR 56), (2, vI (v2))]) hX 4 dX10_unsigned_124 hnl (by decide) rfl rfl ?_
            refine j_goto hX (tgt := 46) dX10_unsigned_127 (by decide) ?_
            refine j_sub [3, 4, 1, 2, 0] rfl ?_
            exact ih _ _ _ _ h
          · rw [if_neg hc] at h
            refine j_aload_n hX 1 dX10_unsigned_103 rfl rfl ?_
            refine j_getS (k := 8) hX hfl cbX10 ty56 (by decide) rfl wd1148 rfl sb56_8 dX10_unsigned_104 ?_
            refine j_iload hX 4 dX10_unsigned_107 rfl ?_
            obtain ⟨x9, hv, h⟩ := bs h
            refine j_iald hX hE ty62 pc62 hv dX10_unsigned_109 ?_
            refine j_aload_n hX 1 dX10_unsigned_110 rfl rfl ?_
            refine j_getS (k := 8) hX hfl cbX10 ty56 (by decide) rfl wd1148 rfl sb56_8 dX10_unsigned_111 ?_
            refine j_iload hX 3 dX10_unsigned_114 rfl ?_
            obtain ⟨x10, hv, h⟩ := bs h
            refine j_iald hX hE ty62 pc62 hv dX10_unsigned_116 ?_
            refine j_icmp_le hX (tgt := 124) dX10_unsigned_117 (by decide) (fun hc => ?_) (fun hc => ?_)
            · rw [if_pos hc] at h
              refine j_iinc (L' := [(6, vI (w32 (v6 + 1))), (5, vI (o_or v5 (o_shl 1 v6))), (0, vR 56), (2, vI (v2)), (4, vI (v4))]) hX 4 dX10_unsigned_124 hnl (by decide) rfl rfl ?_
              refine j_goto hX (tgt := 46) dX10_unsigned_127 (by decide) ?_
              refine j_sub [2, 3, 4, 1, 0] rfl ?_
              exact ih _ _ _ _ h
            · rw [if_neg hc] at h
              refine j_iload hX 4 dX10_unsigned_120 rfl ?_
              refine j_istore (L' := [(4, vI (v6)), (5, vI (o_or v5 (o_shl 1 v6))), (0, vR 56), (2, vI (v2)), (6, vI (v6))]) hX dX10_unsigned_122 hnl (by decide) rfl ?_
              refine j_iinc (L' := [(6, vI (w32 (v6 + 1))), (4, vI (v6)), (5, vI (o_or v5 (o_shl 1 v6))), (0, vR 56), (2, vI (v2))]) hX 4 dX10_unsigned_124 hnl (by decide) rfl rfl ?_
              refine j_goto hX (tgt := 46) dX10_unsigned_127 (by decide) ?_
              refine j_sub [3, 4, 1, 2, 0] rfl ?_
              exact ih _ _ _ _ h
        · rw [if_neg hc] at h
          refine j_goto hX (tgt := 124) dX10_unsigned_86 (by decide) ?_
          refine j_iinc (L' := [(6, vI (w32 (v6 + 1))), (0, vR 56), (2, vI (v2)), (4, vI (v4)), (5, vI (v5))]) hX 4 dX10_unsigned_124 hnl (by decide) rfl rfl ?_
          refine j_goto hX (tgt := 46) dX10_unsigned_127 (by decide) ?_
          refine j_sub [1, 2, 3, 4, 0] rfl ?_
          exact ih _ _ _ _ h
theorem s_X10_unsigned {g : G0} {B : Nat → Nat} {n : Nat} {E : Mem → Mem} {a1 : Int} {a2 : Int} {S : Mem} {r : Int} {S' : Mem} (hfl : g.2.2.2.2 = true) (hE : Lens E PM) (h : g_X10_unsigned a1 a2 S = some (r, S')) : Cn g B n yX10_unsigned cX10_unsigned 7 (some .int) 7 [vR 56, vI (a1), vI (a2)] (E S) (QcI g B n r (E S')) := by
  refine Cn.of (by decide +kernel) (Nat.le_of_ble_eq_true rfl) (fun X hg hnl hX hR => ?_)
  subst hg
  have hX : Ctx X cX10_unsigned "TelegramFeelingsModel" 7 := hX
  unfold g_X10_unsigned at h
  show JW X B n 0 0 0 [(0, vR 56), (1, vI (a1)), (2, vI (a2))] [] (E S) (QM X (QcI (gX X) B n r (E S')))
  refine j_iload_n hX 1 dX10_unsigned_0 rfl rfl ?_
  obtain ⟨x1, h1, h⟩ := bs h
  refine j_callSI hX mwX10_isShelf msX10_isShelf wd1337 hyX10_isShelf (by omega) (by decide) ⟨Nat.zero_le _, Nat.zero_le _⟩ dX10_unsigned_1 (s_X10_isShelf hfl h1) npX10_isShelf rfl (Nat.le_of_ble_eq_true rfl) ?_
  refine j_if_eq hX (tgt := 16) dX10_unsigned_4 (by decide) (fun hc => ?_) (fun hc => ?_)
  · rw [if_pos hc] at h
    refine j_iconst hX dX10_unsigned_16 (rc rfl) ?_
    cases h
    exact j_iret hX hR dX10_unsigned_17
  · rw [if_neg hc] at h
    refine j_iload_n hX 2 dX10_unsigned_7 rfl rfl ?_
    refine j_iconst hX dX10_unsigned_8 (rc rfl) ?_
    refine j_iconst hX dX10_unsigned_9 (rc rfl) ?_
    refine j_callSI hX mwX10_in msX10_in wd1326 hyX10_in (by omega) (by decide) ⟨Nat.zero_le _, Nat.zero_le _⟩ dX10_unsigned_10 (s_X10_in hfl rfl) npX10_in rfl (Nat.le_of_ble_eq_true rfl) ?_
    refine j_if_ne hX (tgt := 18) dX10_unsigned_13 (by decide) (fun hc => ?_) (fun hc => ?_)
    · rw [if_neg hc] at h
      refine j_aload_n hX 0 dX10_unsigned_18 rfl rfl ?_
      refine j_iload_n hX 1 dX10_unsigned_19 rfl rfl ?_
      refine j_iconst hX dX10_unsigned_20 (rc rfl) ?_
      obtain ⟨x2, h1, h⟩ := bs h
      refine j_callVI hX mwX10_rowFault miX10_rowFault wd1475 cbX10 ty56 hyX10_rowFault (by omega) (by decide) ⟨Nat.zero_le _, Nat.zero_le _⟩ dX10_unsigned_21 (s_X10_rowFault hfl hE h1) npX10_rowFault rfl (Nat.le_of_ble_eq_true rfl) ?_
      refine j_istore_n (L' := [(3, vI (x2)), (0, vR 56), (1, vI (a1)), (2, vI (a2))]) hX dX10_unsigned_24 rfl hnl (by decide) rfl ?_
      refine j_iload_n hX 0 dX10_unsigned_25 rfl rfl ?_
      refine j_if_ge hX (tgt := 31) dX10_unsigned_26 (by decide) (fun hc => ?_) (fun hc => ?_)
      · rw [if_pos hc] at h
        refine j_aload_n hX 1 dX10_unsigned_31 rfl rfl ?_
        refine j_iload_n hX 2 dX10_unsigned_32 rfl rfl ?_
        obtain ⟨S3, h1, h⟩ := bs h
        refine j_callVV hX mwX10_layWired miX10_layWired wd1479 cbX10 ty56 hyX10_layWired (by omega) (by decide) ⟨Nat.zero_le _, Nat.zero_le _⟩ dX10_unsigned_33 (s_X10_layWired hfl hE h1) npX10_layWired rfl (Nat.le_of_ble_eq_true rfl) ?_
        refine j_bipush hX dX10_unsigned_36 (rc rfl) (by decide) ?_
        refine j_istore (L' := [(4, vI ((-2))), (3, vI (x2)), (0, vR 56), (1, vI (a1)), (2, vI (a2))]) hX dX10_unsigned_38 hnl (by decide) rfl ?_
        refine j_iconst hX dX10_unsigned_40 (rc rfl) ?_
        refine j_istore (L' := [(5, vI (0)), (4, vI ((-2))), (3, vI (x2)), (0, vR 56), (1, vI (a1)), (2, vI (a2))]) hX dX10_unsigned_41 hnl (by decide) rfl ?_
        refine j_iconst hX dX10_unsigned_43 (rc rfl) ?_
        refine j_istore (L' := [(6, vI (0)), (5, vI (0)), (4, vI ((-2))), (3, vI (x2)), (0, vR 56), (1, vI (a1)), (2, vI (a2))]) hX dX10_unsigned_44 hnl (by decide) rfl ?_
        refine j_sub [4, 6, 2, 1, 0] rfl ?_
        refine sl_X10_unsigned_46 hX hR hfl hnl hE (fun y12 y13 S11 h => ?_) _ _ _ _ _ h
        refine j_iload_n hX 0 dX10_unsigned_130 rfl rfl ?_
        refine j_if_ne hX (tgt := 139) dX10_unsigned_131 (by decide) (fun hc => ?_) (fun hc => ?_)
        · rw [if_neg hc] at h
          refine j_iload hX 1 dX10_unsigned_139 rfl ?_
          cases h
          exact j_iret hX hR dX10_unsigned_141
        · rw [if_pos hc] at h
          refine j_iload hX 2 dX10_unsigned_134 rfl ?_
          refine j_goto hX (tgt := 141) dX10_unsigned_136 (by decide) ?_
          cases h
          exact j_iret hX hR dX10_unsigned_141
      · rw [if_neg hc] at h
        refine j_iload_n hX 0 dX10_unsigned_29 rfl rfl ?_
        cases h
        exact j_iret hX hR dX10_unsigned_30
    · rw [if_pos hc] at h
      refine j_iconst hX dX10_unsigned_16 (rc rfl) ?_
      cases h
      exact j_iret hX hR dX10_unsigned_17
theorem sl_X10_club_43 {X : K0} {B : Nat → Nat} {n : Nat} {E : Mem → Mem} {r : Int} (hX : Ctx X cX10_club "TelegramFeelingsModel" 3) (hR : CR X (some .int)) (hfl : (gX X).2.2.2.2 = true) (hnl : X.2.2.2.2.2.2.2.2.2.2.2.2.2.2 = 7) (hE : Lens E PM) {k80 : Int → Option Int} {v1 : Int} {v2 : Int} {v3 : Int} {S : Mem} (K80 : ∀ (v4 : Int), k80 v4 = some r → JW X B n 0 0 80 [(0, vR 56), (1, vI (v1)), (2, vI (v2)), (3, vI (v3)), (4, vI (v4))] [] (E S) (QM X (QcI (gX X) B n r (E S)))) : ∀ (fu : Nat) (v4 : Int) (v5 : Int), g_X10_club_L43 k80 v1 v2 v3 S fu v4 v5 = some r → JW X B n 0 0 43 [(0, vR 56), (1, vI (v1)), (2, vI (v2)), (3, vI (v3)), (4, vI (v4)), (5, vI (v5))] [] (E S) (QM X (QcI (gX X) B n r (E S))) := by
  intro fu
  induction fu with
  | zero =>
    intro v4 v5 h
    rw [g_X10_club_L43] at h
    cases h
  | succ fu ih =>
    intro v4 v5 h
    rw [g_X10_club_L43] at h
    refine j_iload hX 5 dX10_club_43 rfl ?_
    refine j_aload_n hX 0 dX10_club_45 rfl rfl ?_
    refine j_getI (k := 7) hX hE cbX10 ty56 pc56 (by decide) rfl wd1147 rfl dX10_club_46 ?_
    refine j_icmp_ge hX (tgt := 80) dX10_club_49 (by decide) (fun hc => ?_) (fun hc => ?_)
    · rw [if_pos hc] at h
      refine j_sub [0, 1, 2, 3, 4] rfl ?_
      exact K80 _ h
    · rw [if_neg hc] at h
      refine j_iload_n hX 1 dX10_club_52 rfl rfl ?_
      refine j_iload hX 5 dX10_club_53 rfl ?_
      refine j_ishr hX dX10_club_55 ?_
      refine j_iconst hX dX10_club_56 (rc rfl) ?_
      refine j_iand hX dX10_club_57 ?_
      refine j_iconst hX dX10_club_58 (rc rfl) ?_
      refine j_icmp_ne hX (tgt := 74) dX10_club_59 (by decide) (fun hc => ?_) (fun hc => ?_)
      · rw [if_neg hc] at h
        refine j_iinc (L' := [(5, vI (w32 (v5 + 1))), (0, vR 56), (1, vI (v1)), (2, vI (v2)), (3, vI (v3)), (4, vI (v4))]) hX 5 dX10_club_74 hnl (by decide) rfl rfl ?_
        refine j_goto hX (tgt := 43) dX10_club_77 (by decide) ?_
        refine j_sub [1, 2, 3, 4, 5, 0] rfl ?_
        exact ih _ _ h
      · rw [if_pos hc] at h
        refine j_iload hX 4 dX10_club_62 rfl ?_
        refine j_aload_n hX 0 dX10_club_64 rfl rfl ?_
        refine j_getS (k := 8) hX hfl cbX10 ty56 (by decide) rfl wd1148 rfl sb56_8 dX10_club_65 ?_
        refine j_iload hX 5 dX10_club_68 rfl ?_
        obtain ⟨x2, hv, h⟩ := bs h
        refine j_iald hX hE ty62 pc62 hv dX10_club_70 ?_
        refine j_iadd hX dX10_club_71 ?_
        refine j_istore (L' := [(4, vI (w32 (v4 + x2))), (0, vR 56), (1, vI (v1)), (2, vI (v2)), (3, vI (v3)), (5, vI (v5))]) hX dX10_club_72 hnl (by decide) rfl ?_
        refine j_iinc (L' := [(5, vI (w32 (v5 + 1))), (4, vI (w32 (v4 + x2))), (0, vR 56), (1, vI (v1)), (2, vI (v2)), (3, vI (v3))]) hX 5 dX10_club_74 hnl (by decide) rfl rfl ?_
        refine j_goto hX (tgt := 43) dX10_club_77 (by decide) ?_
        refine j_sub [2, 3, 4, 5, 1, 0] rfl ?_
        exact ih _ _ h
theorem sl_X10_club_109 {X : K0} {B : Nat → Nat} {n : Nat} {E : Mem → Mem} {r : Int} (hX : Ctx X cX10_club "TelegramFeelingsModel" 3) (hR : CR X (some .int)) (hfl : (gX X).2.2.2.2 = true) (hnl : X.2.2.2.2.2.2.2.2.2.2.2.2.2.2 = 7) (hE : Lens E PM) {k151 : Int → Option Int} {v1 : Int} {v2 : Int} {v3 : Int} {v4 : Int} {S : Mem} (K151 : ∀ (v5 : Int), k151 v5 = some r → JW X B n 0 0 151 [(0, vR 56), (1, vI (v1)), (2, vI (v2)), (3, vI (v3)), (4, vI (v4)), (5, vI (v5))] [] (E S) (QM X (QcI (gX X) B n r (E S)))) : ∀ (fu : Nat) (v5 : Int) (v6 : Int), g_X10_club_L109 k151 v1 v2 v3 v4 S fu v5 v6 = some r → JW X B n 0 0 109 [(0, vR 56), (1, vI (v1)), (2, vI (v2)), (3, vI (v3)), (4, vI (v4)), (5, vI (v5)), (6, vI (v6))] [] (E S) (QM X (QcI (gX X) B n r (E S))) := by
  intro fu
  induction fu with
  | zero =>
    intro v5 v6 h
    rw [g_X10_club_L109] at h
    cases h
  | succ fu ih =>
    intro v5 v6 h
    rw [g_X10_club_L109] at h
    refine j_iload hX 6 dX10_club_109 rfl ?_
    refine j_aload_n hX 0 dX10_club_111 rfl rfl ?_
    refine j_getI (k := 7) hX hE cbX10 ty56 pc56 (by decide) rfl wd1147 rfl dX10_club_112 ?_
    refine j_icmp_ge hX (tgt := 151) dX10_club_115 (by decide) (fun hc => ?_) (fun hc => ?_)
    · rw [if_pos hc] at h
      refine j_sub [0, 1, 2, 3, 4, 5] rfl ?_
      exact K151 _ h
    · rw [if_neg hc] at h
      refine j_iload_n hX 1 dX10_club_118 rfl rfl ?_
      refine j_iload hX 6 dX10_club_119 rfl ?_
      refine j_ishr hX dX10_club_121 ?_
      refine j_iconst hX dX10_club_122 (rc rfl) ?_
      refine j_iand hX dX10_club_123 ?_
      refine j_iconst hX dX10_club_124 (rc rfl) ?_
      refine j_icmp_ne hX (tgt := 145) dX10_club_125 (by decide) (fun hc => ?_) (fun hc => ?_)
      · rw [if_neg hc] at h
        refine j_iinc (L' := [(6, vI (w32 (v6 + 1))), (0, vR 56), (1, vI (v1)), (2, vI (v2)), (3, vI (v3)), (4, vI (v4)), (5, vI (v5))]) hX 6 dX10_club_145 hnl (by decide) rfl rfl ?_
        refine j_goto hX (tgt := 109) dX10_club_148 (by decide) ?_
        refine j_sub [1, 2, 3, 4, 5, 6, 0] rfl ?_
        exact ih _ _ h
      · rw [if_pos hc] at h
        refine j_iload hX 5 dX10_club_128 rfl ?_
        refine j_iload_n hX 2 dX10_club_130 rfl rfl ?_
        refine j_aload_n hX 0 dX10_club_131 rfl rfl ?_
        refine j_getS (k := 8) hX hfl cbX10 ty56 (by decide) rfl wd1148 rfl sb56_8 dX10_club_132 ?_
        refine j_iload hX 6 dX10_club_135 rfl ?_
        obtain ⟨x4, hv, h⟩ := bs h
        refine j_iald hX hE ty62 pc62 hv dX10_club_137 ?_
        refine j_imul hX dX10_club_138 ?_
        refine j_iload hX 4 dX10_club_139 rfl ?_
        obtain ⟨hz, h⟩ := chk_s h
        refine j_idiv hX dX10_club_141 hz ?_
        refine j_isub hX dX10_club_142 ?_
        obtain ⟨x5, hx, h⟩ := ap_s h
        rw [← hx]
        clear hx
        refine j_istore (L' := [(5, vI (x5)), (0, vR 56), (1, vI (v1)), (2, vI (v2)), (3, vI (v3)), (4, vI (v4)), (6, vI (v6))]) hX dX10_club_143 hnl (by decide) rfl ?_
        refine j_iinc (L' := [(6, vI (w32 (v6 + 1))), (5, vI (x5)), (0, vR 56), (1, vI (v1)), (2, vI (v2)), (3, vI (v3)), (4, vI (v4))]) hX 6 dX10_club_145 hnl (by decide) rfl rfl ?_
        refine j_goto hX (tgt := 109) dX10_club_148 (by decide) ?_
        refine j_sub [2, 3, 4, 5, 6, 1, 0] rfl ?_
        exact ih _ _ h
theorem s_X10_club {g : G0} {B : Nat → Nat} {n : Nat} {E : Mem → Mem} {a1 : Int} {a2 : Int} {a3 : Int} {S : Mem} {r : Int} (hfl : g.2.2.2.2 = true) (hE : Lens E PM) (h : g_X10_club a1 a2 a3 S = some r) : Cn g B n yX10_club cX10_club 7 (some .int) 3 [vR 56, vI (a1), vI (a2), vI (a3)] (E S) (QcI g B n r (E S)) := by
  refine Cn.of (by decide +kernel) (Nat.le_of_ble_eq_true rfl) (fun X hg hnl hX hR => ?_)
  subst hg
  have hX : Ctx X cX10_club "TelegramFeelingsModel" 3 := hX
  unfold g_X10_club at h
  show JW X B n 0 0 0 [(0, vR 56), (1, vI (a1)), (2, vI (a2)), (3, vI (a3))] [] (E S) (QM X (QcI (gX X) B n r (E S)))
  refine j_iload_n hX 1 dX10_club_0 rfl rfl ?_
  refine j_iconst hX dX10_club_1 (rc rfl) ?_
  refine j_iconst hX dX10_club_2 (rc rfl) ?_
  refine j_aload_n hX 0 dX10_club_3 rfl rfl ?_
  refine j_getI (k := 7) hX hE cbX10 ty56 pc56 (by decide) rfl wd1147 rfl dX10_club_4 ?_
  refine j_ishl hX dX10_club_7 ?_
  refine j_iconst hX dX10_club_8 (rc rfl) ?_
  refine j_isub hX dX10_club_9 ?_
  refine j_callSI hX mwX10_in msX10_in wd1326 hyX10_in (by omega) (by decide) ⟨Nat.zero_le _, Nat.zero_le _⟩ dX10_club_10 (s_X10_in hfl rfl) npX10_in rfl (Nat.le_of_ble_eq_true rfl) ?_
  refine j_if_eq hX (tgt := 35) dX10_club_13 (by decide) (fun hc => ?_) (fun hc => ?_)
  · rw [if_pos hc] at h
    refine j_iconst hX dX10_club_35 (rc rfl) ?_
    cases h
    exact j_iret hX hR dX10_club_36
  · rw [if_neg hc] at h
    refine j_iload_n hX 2 dX10_club_16 rfl rfl ?_
    refine j_iconst hX dX10_club_17 (rc rfl) ?_
    refine j_sipush hX dX10_club_18 (rc rfl) (by decide) ?_
    refine j_callSI hX mwX10_in msX10_in wd1326 hyX10_in (by omega) (by decide) ⟨Nat.zero_le _, Nat.zero_le _⟩ dX10_club_21 (s_X10_in hfl rfl) npX10_in rfl (Nat.le_of_ble_eq_true rfl) ?_
    refine j_if_eq hX (tgt := 35) dX10_club_24 (by decide) (fun hc => ?_) (fun hc => ?_)
    · rw [if_pos hc] at h
      refine j_iconst hX dX10_club_35 (rc rfl) ?_
      cases h
      exact j_iret hX hR dX10_club_36
    · rw [if_neg hc] at h
      refine j_aload_n hX 0 dX10_club_27 rfl rfl ?_
      refine j_iload_n hX 3 dX10_club_28 rfl rfl ?_
      obtain ⟨x1, h1, h⟩ := bs h
      refine j_callVI hX mwX10_isPerson miX10_isPerson wd1369 cbX10 ty56 hyX10_isPerson (by omega) (by decide) ⟨Nat.zero_le _, Nat.zero_le _⟩ dX10_club_29 (s_X10_isPerson hfl hE h1) npX10_isPerson rfl (Nat.le_of_ble_eq_true rfl) ?_
      refine j_if_ne hX (tgt := 37) dX10_club_32 (by decide) (fun hc => ?_) (fun hc => ?_)
      · rw [if_neg hc] at h
        refine j_iconst hX dX10_club_37 (rc rfl) ?_
        refine j_istore (L' := [(4, vI (0)), (0, vR 56), (1, vI (a1)), (2, vI (a2)), (3, vI (a3))]) hX dX10_club_38 hnl (by decide) rfl ?_
        refine j_iconst hX dX10_club_40 (rc rfl) ?_
        refine j_istore (L' := [(5, vI (0)), (4, vI (0)), (0, vR 56), (1, vI (a1)), (2, vI (a2)), (3, vI (a3))]) hX dX10_club_41 hnl (by decide) rfl ?_
        refine j_sub [2, 3, 4, 5, 1, 0] rfl ?_
        refine sl_X10_club_43 hX hR hfl hnl hE (fun y3 h => ?_) _ _ _ h
        refine j_iload_n hX 1 dX10_club_80 rfl rfl ?_
        refine j_iload_n hX 3 dX10_club_81 rfl rfl ?_
        refine j_ishr hX dX10_club_82 ?_
        refine j_iconst hX dX10_club_83 (rc rfl) ?_
        refine j_iand hX dX10_club_84 ?_
        refine j_if_eq hX (tgt := 94) dX10_club_85 (by decide) (fun hc => ?_) (fun hc => ?_)
        · rw [if_pos hc] at h
          refine j_bipush hX dX10_club_94 (rc rfl) (by decide) ?_
          cases h
          exact j_iret hX hR dX10_club_96
        · rw [if_neg hc] at h
          refine j_iload hX 4 dX10_club_88 rfl ?_
          refine j_iload_n hX 2 dX10_club_90 rfl rfl ?_
          refine j_icmp_ge hX (tgt := 97) dX10_club_91 (by decide) (fun hc => ?_) (fun hc => ?_)
          · rw [if_pos hc] at h
            refine j_iload_n hX 2 dX10_club_97 rfl rfl ?_
            refine j_if_ne hX (tgt := 103) dX10_club_98 (by decide) (fun hc => ?_) (fun hc => ?_)
            · rw [if_neg hc] at h
              refine j_iload_n hX 2 dX10_club_103 rfl rfl ?_
              refine j_istore (L' := [(5, vI (a2)), (0, vR 56), (1, vI (a1)), (2, vI (a2)), (3, vI (a3)), (4, vI (y3))]) hX dX10_club_104 hnl (by decide) rfl ?_
              refine j_iconst hX dX10_club_106 (rc rfl) ?_
              refine j_istore (L' := [(6, vI (0)), (5, vI (a2)), (0, vR 56), (1, vI (a1)), (2, vI (a2)), (3, vI (a3)), (4, vI (y3))]) hX dX10_club_107 hnl (by decide) rfl ?_
              refine j_sub [2, 3, 4, 5, 6, 1, 0] rfl ?_
              refine sl_X10_club_109 hX hR hfl hnl hE (fun y6 h => ?_) _ _ _ h
              refine j_iload_n hX 1 dX10_club_151 rfl rfl ?_
              refine j_iconst hX dX10_club_152 (rc rfl) ?_
              refine j_iload_n hX 3 dX10_club_153 rfl rfl ?_
              refine j_ishl hX dX10_club_154 ?_
              refine j_iconst hX dX10_club_155 (rc rfl) ?_
              refine j_isub hX dX10_club_156 ?_
              refine j_iand hX dX10_club_157 ?_
              obtain ⟨x7, h1, h⟩ := bs h
              refine j_callSI hX mwX10_bitsOf msX10_bitsOf wd1553 hyX10_bitsOf (by omega) (by decide) ⟨Nat.zero_le _, Nat.zero_le _⟩ dX10_club_158 (s_X10_bitsOf hfl h1) npX10_bitsOf rfl (Nat.le_of_ble_eq_true rfl) ?_
              refine j_istore (L' := [(6, vI (x7)), (0, vR 56), (1, vI (a1)), (2, vI (a2)), (3, vI (a3)), (4, vI (y3)), (5, vI (y6))]) hX dX10_club_161 hnl (by decide) rfl ?_
              refine j_iload_n hX 3 dX10_club_163 rfl rfl ?_
              refine j_aload_n hX 1 dX10_club_164 rfl rfl ?_
              refine j_getS (k := 8) hX hfl cbX10 ty56 (by decide) rfl wd1148 rfl sb56_8 dX10_club_165 ?_
              refine j_iload_n hX 4 dX10_club_168 rfl rfl ?_
              obtain ⟨x8, hv, h⟩ := bs h
              refine j_iald hX hE ty62 pc62 hv dX10_club_169 ?_
              refine j_imul hX dX10_club_170 ?_
              refine j_iload hX 5 dX10_club_171 rfl ?_
              obtain ⟨hz, h⟩ := chk_s h
              refine j_idiv hX dX10_club_173 hz ?_
              refine j_iload hX 0 dX10_club_174 rfl ?_
              refine j_iload hX 6 dX10_club_176 rfl ?_
              refine j_icmp_ge hX (tgt := 185) dX10_club_178 (by decide) (fun hc => ?_) (fun hc => ?_)
              · rw [if_pos hc] at h
                refine j_iconst hX dX10_club_185 (rc rfl) ?_
                refine j_iadd hX dX10_club_186 ?_
                cases h
                exact j_iret hX hR dX10_club_187
              · rw [if_neg hc] at h
                refine j_iconst hX dX10_club_181 (rc rfl) ?_
                refine j_goto hX (tgt := 186) dX10_club_182 (by decide) ?_
                refine j_iadd hX dX10_club_186 ?_
                cases h
                exact j_iret hX hR dX10_club_187
            · rw [if_pos hc] at h
              refine j_iconst hX dX10_club_101 (rc rfl) ?_
              cases h
              exact j_iret hX hR dX10_club_102
          · rw [if_neg hc] at h
            refine j_bipush hX dX10_club_94 (rc rfl) (by decide) ?_
            cases h
            exact j_iret hX hR dX10_club_96
      · rw [if_pos hc] at h
        refine j_iconst hX dX10_club_35 (rc rfl) ?_
        cases h
        exact j_iret hX hR dX10_club_36
theorem sl_X10_lacks_19 {X : K0} {B : Nat → Nat} {n : Nat} {E : Mem → Mem} {r : Int} (hX : Ctx X cX10_lacks "TelegramFeelingsModel" 2) (hR : CR X (some .int)) (hfl : (gX X).2.2.2.2 = true) (hnl : X.2.2.2.2.2.2.2.2.2.2.2.2.2.2 = 5) (hE : Lens E PM) {k101 : Int → Int → Option Int} {v1 : Int} {S : Mem} (K101 : ∀ (v2 : Int) (v3 : Int), k101 v2 v3 = some r → JW X B n 0 0 101 [(1, vI (v1)), (2, vI (v2)), (3, vI (v3))] [] (E S) (QM X (QcI (gX X) B n r (E S)))) : ∀ (fu : Nat) (v2 : Int) (v3 : Int) (v4 : Int), g_X10_lacks_L19 k101 v1 S fu v2 v3 v4 = some r → JW X B n 0 0 19 [(0, vR 56), (1, vI (v1)), (2, vI (v2)), (3, vI (v3)), (4, vI (v4))] [] (E S) (QM X (QcI (gX X) B n r (E S))) := by
  intro fu
  induction fu with
  | zero =>
    intro v2 v3 v4 h
    rw [g_X10_lacks_L19] at h
    cases h
  | succ fu ih =>
    intro v2 v3 v4 h
    rw [g_X10_lacks_L19] at h
    refine j_iload hX 4 dX10_lacks_19 rfl ?_
    refine j_aload_n hX 0 dX10_lacks_21 rfl rfl ?_
    refine j_getI (k := 1) hX hE cbX10 ty56 pc56 (by decide) rfl wd1141 rfl dX10_lacks_22 ?_
    refine j_icmp_ge hX (tgt := 101) dX10_lacks_25 (by decide) (fun hc => ?_) (fun hc => ?_)
    · rw [if_pos hc] at h
      refine j_sub [1, 2, 3] rfl ?_
      exact K101 _ _ h
    · rw [if_neg hc] at h
      refine j_iload_n hX 2 dX10_lacks_28 rfl rfl ?_
      refine j_aload_n hX 0 dX10_lacks_29 rfl rfl ?_
      refine j_getS (k := 3) hX hfl cbX10 ty56 (by decide) rfl wd1143 rfl sb56_3 dX10_lacks_30 ?_
      refine j_iload hX 4 dX10_lacks_33 rfl ?_
      obtain ⟨x1, hv, h⟩ := bs h
      refine j_iald hX hE ty58 pc58 hv dX10_lacks_35 ?_
      refine j_ior hX dX10_lacks_36 ?_
      refine j_istore_n (L' := [(2, vI (o_or v2 x1)), (0, vR 56), (1, vI (v1)), (3, vI (v3)), (4, vI (v4))]) hX dX10_lacks_37 rfl hnl (by decide) rfl ?_
      refine j_aload_n hX 1 dX10_lacks_38 rfl rfl ?_
      refine j_getS (k := 3) hX hfl cbX10 ty56 (by decide) rfl wd1143 rfl sb56_3 dX10_lacks_39 ?_
      refine j_iload hX 4 dX10_lacks_42 rfl ?_
      obtain ⟨x2, hv, h⟩ := bs h
      refine j_iald hX hE ty58 pc58 hv dX10_lacks_44 ?_
      refine j_if_ne hX (tgt := 51) dX10_lacks_45 (by decide) (fun hc => ?_) (fun hc => ?_)
      · rw [if_neg hc] at h
        refine j_iload_n hX 3 dX10_lacks_51 rfl rfl ?_
        refine j_if_lt hX (tgt := 92) dX10_lacks_52 (by decide) (fun hc => ?_) (fun hc => ?_)
        · rw [if_pos hc] at h
          refine j_iload hX 4 dX10_lacks_92 rfl ?_
          refine j_istore_n (L' := [(3, vI (v4)), (2, vI (o_or v2 x1)), (0, vR 56), (1, vI (v1)), (4, vI (v4))]) hX dX10_lacks_94 rfl hnl (by decide) rfl ?_
          refine j_iinc (L' := [(4, vI (w32 (v4 + 1))), (3, vI (v4)), (2, vI (o_or v2 x1)), (0, vR 56), (1, vI (v1))]) hX 4 dX10_lacks_95 hnl (by decide) rfl rfl ?_
          refine j_goto hX (tgt := 19) dX10_lacks_98 (by decide) ?_
          refine j_sub [3, 4, 2, 1, 0] rfl ?_
          exact ih _ _ _ h
        · rw [if_neg hc] at h
          refine j_aload_n hX 1 dX10_lacks_55 rfl rfl ?_
          refine j_getS (k := 2) hX hfl cbX10 ty56 (by decide) rfl wd1142 rfl sb56_2 dX10_lacks_56 ?_
          refine j_iload hX 4 dX10_lacks_59 rfl ?_
          obtain ⟨x3, hv, h⟩ := bs h
          refine j_iald hX hE ty57 pc57 hv dX10_lacks_61 ?_
          refine j_aload_n hX 1 dX10_lacks_62 rfl rfl ?_
          refine j_getS (k := 3) hX hfl cbX10 ty56 (by decide) rfl wd1143 rfl sb56_3 dX10_lacks_63 ?_
          refine j_iload_n hX 3 dX10_lacks_66 rfl rfl ?_
          obtain ⟨x4, hv, h⟩ := bs h
          refine j_iald hX hE ty58 pc58 hv dX10_lacks_67 ?_
          obtain ⟨x5, h1, h⟩ := bs h
          refine j_callSI hX mwX10_bitsOf msX10_bitsOf wd1553 hyX10_bitsOf (by omega) (by decide) ⟨Nat.zero_le _, Nat.zero_le _⟩ dX10_lacks_68 (s_X10_bitsOf hfl h1) npX10_bitsOf rfl (Nat.le_of_ble_eq_true rfl) ?_
          refine j_imul hX dX10_lacks_71 ?_
          refine j_aload_n hX 1 dX10_lacks_72 rfl rfl ?_
          refine j_getS (k := 2) hX hfl cbX10 ty56 (by decide) rfl wd1142 rfl sb56_2 dX10_lacks_73 ?_
          refine j_iload_n hX 3 dX10_lacks_76 rfl rfl ?_
          obtain ⟨x6, hv, h⟩ := bs h
          refine j_iald hX hE ty57 pc57 hv dX10_lacks_77 ?_
          refine j_aload_n hX 1 dX10_lacks_78 rfl rfl ?_
          refine j_getS (k := 3) hX hfl cbX10 ty56 (by decide) rfl wd1143 rfl sb56_3 dX10_lacks_79 ?_
          refine j_iload hX 4 dX10_lacks_82 rfl ?_
          obtain ⟨x7, hv, h⟩ := bs h
          refine j_iald hX hE ty58 pc58 hv dX10_lacks_84 ?_
          obtain ⟨x8, h1, h⟩ := bs h
          refine j_callSI hX mwX10_bitsOf msX10_bitsOf wd1553 hyX10_bitsOf (by omega) (by decide) ⟨Nat.zero_le _, Nat.zero_le _⟩ dX10_lacks_85 (s_X10_bitsOf hfl h1) npX10_bitsOf rfl (Nat.le_of_ble_eq_true rfl) ?_
          refine j_imul hX dX10_lacks_88 ?_
          refine j_icmp_le hX (tgt := 95) dX10_lacks_89 (by decide) (fun hc => ?_) (fun hc => ?_)
          · rw [if_pos hc] at h
            refine j_iinc (L' := [(4, vI (w32 (v4 + 1))), (2, vI (o_or v2 x1)), (0, vR 56), (1, vI (v1)), (3, vI (v3))]) hX 4 dX10_lacks_95 hnl (by decide) rfl rfl ?_
            refine j_goto hX (tgt := 19) dX10_lacks_98 (by decide) ?_
            refine j_sub [2, 3, 1, 4, 0] rfl ?_
            exact ih _ _ _ h
          · rw [if_neg hc] at h
            refine j_iload hX 4 dX10_lacks_92 rfl ?_
            refine j_istore_n (L' := [(3, vI (v4)), (2, vI (o_or v2 x1)), (0, vR 56), (1, vI (v1)), (4, vI (v4))]) hX dX10_lacks_94 rfl hnl (by decide) rfl ?_
            refine j_iinc (L' := [(4, vI (w32 (v4 + 1))), (3, vI (v4)), (2, vI (o_or v2 x1)), (0, vR 56), (1, vI (v1))]) hX 4 dX10_lacks_95 hnl (by decide) rfl rfl ?_
            refine j_goto hX (tgt := 19) dX10_lacks_98 (by decide) ?_
            refine j_sub [3, 4, 2, 1, 0] rfl ?_
            exact ih _ _ _ h
      · rw [if_pos hc] at h
        refine j_goto hX (tgt := 95) dX10_lacks_48 (by decide) ?_
        refine j_iinc (L' := [(4, vI (w32 (v4 + 1))), (2, vI (o_or v2 x1)), (0, vR 56), (1, vI (v1)), (3, vI (v3))]) hX 4 dX10_lacks_95 hnl (by decide) rfl rfl ?_
        refine j_goto hX (tgt := 19) dX10_lacks_98 (by decide) ?_
        refine j_sub [2, 3, 1, 4, 0] rfl ?_
        exact ih _ _ _ h
theorem s_X10_lacks {g : G0} {B : Nat → Nat} {n : Nat} {E : Mem → Mem} {a1 : Int} {S : Mem} {r : Int} (hfl : g.2.2.2.2 = true) (hE : Lens E PM) (h : g_X10_lacks a1 S = some r) : Cn g B n yX10_lacks cX10_lacks 5 (some .int) 2 [vR 56, vI (a1)] (E S) (QcI g B n r (E S)) := by
  refine Cn.of (by decide +kernel) (Nat.le_of_ble_eq_true rfl) (fun X hg hnl hX hR => ?_)
  subst hg
  have hX : Ctx X cX10_lacks "TelegramFeelingsModel" 2 := hX
  unfold g_X10_lacks at h
  show JW X B n 0 0 0 [(0, vR 56), (1, vI (a1))] [] (E S) (QM X (QcI (gX X) B n r (E S)))
  refine j_iload_n hX 1 dX10_lacks_0 rfl rfl ?_
  refine j_iconst hX dX10_lacks_1 (rc rfl) ?_
  refine j_iconst hX dX10_lacks_2 (rc rfl) ?_
  refine j_callSI hX mwX10_in msX10_in wd1326 hyX10_in (by omega) (by decide) ⟨Nat.zero_le _, Nat.zero_le _⟩ dX10_lacks_3 (s_X10_in hfl rfl) npX10_in rfl (Nat.le_of_ble_eq_true rfl) ?_
  refine j_if_ne hX (tgt := 11) dX10_lacks_6 (by decide) (fun hc => ?_) (fun hc => ?_)
  · rw [if_neg hc] at h
    refine j_iconst hX dX10_lacks_11 (rc rfl) ?_
    refine j_istore_n (L' := [(2, vI (0)), (0, vR 56), (1, vI (a1))]) hX dX10_lacks_12 rfl hnl (by decide) rfl ?_
    refine j_bipush hX dX10_lacks_13 (rc rfl) (by decide) ?_
    refine j_istore_n (L' := [(3, vI ((-2))), (2, vI (0)), (0, vR 56), (1, vI (a1))]) hX dX10_lacks_15 rfl hnl (by decide) rfl ?_
    refine j_iconst hX dX10_lacks_16 (rc rfl) ?_
    refine j_istore (L' := [(4, vI (0)), (3, vI ((-2))), (2, vI (0)), (0, vR 56), (1, vI (a1))]) hX dX10_lacks_17 hnl (by decide) rfl ?_
    refine j_sub [3, 4, 2, 1, 0] rfl ?_
    refine sl_X10_lacks_19 hX hR hfl hnl hE (fun y9 y10 h => ?_) _ _ _ _ h
    refine j_iload_n hX 0 dX10_lacks_101 rfl rfl ?_
    refine j_if_ne hX (tgt := 114) dX10_lacks_102 (by decide) (fun hc => ?_) (fun hc => ?_)
    · rw [if_neg hc] at h
      refine j_iload_n hX 2 dX10_lacks_114 rfl rfl ?_
      cases h
      exact j_iret hX hR dX10_lacks_115
    · rw [if_pos hc] at h
      refine j_bipush hX dX10_lacks_105 (rc rfl) (by decide) ?_
      refine j_iload_n hX 1 dX10_lacks_107 rfl rfl ?_
      refine j_iconst hX dX10_lacks_108 (rc rfl) ?_
      refine j_ixor hX dX10_lacks_109 ?_
      refine j_iand hX dX10_lacks_110 ?_
      refine j_goto hX (tgt := 115) dX10_lacks_111 (by decide) ?_
      cases h
      exact j_iret hX hR dX10_lacks_115
  · rw [if_pos hc] at h
    refine j_iconst hX dX10_lacks_9 (rc rfl) ?_
    cases h
    exact j_iret hX hR dX10_lacks_10
theorem sl_X10_drawn_85 {X : K0} {B : Nat → Nat} {n : Nat} {E : Mem → Mem} {r : Int} {S' : Mem} (hX : Ctx X cX10_drawn "TelegramFeelingsModel" 3) (hR : CR X (some .int)) (hfl : (gX X).2.2.2.2 = true) (hnl : X.2.2.2.2.2.2.2.2.2.2.2.2.2.2 = 10) (hE : Lens E PM) {k175 : Int → Int → Mem → Option (Int × Mem)} {v2 : Int} {v3 : Int} {v5 : Int} {v6 : Int} {v7 : Int} (K175 : ∀ (v4 : Int) (v8 : Int) (S : Mem), k175 v4 v8 S = some (r, S') → JW X B n 0 0 175 [(0, vR 56), (2, vI (v2)), (3, vI (v3)), (4, vI (v4)), (5, vI (v5)), (6, vI (v6)), (7, vI (v7)), (8, vI (v8))] [] (E S) (QM X (QcI (gX X) B n r (E S')))) : ∀ (fu : Nat) (v4 : Int) (v8 : Int) (v9 : Int) (S : Mem), g_X10_drawn_L85 k175 v2 v3 v5 v6 v7 fu v4 v8 v9 S = some (r, S') → JW X B n 0 0 85 [(0, vR 56), (2, vI (v2)), (3, vI (v3)), (4, vI (v4)), (5, vI (v5)), (6, vI (v6)), (7, vI (v7)), (8, vI (v8)), (9, vI (v9))] [] (E S) (QM X (QcI (gX X) B n r (E S'))) := by
  intro fu
  induction fu with
  | zero =>
    intro v4 v8 v9 S h
    rw [g_X10_drawn_L85] at h
    cases h
  | succ fu ih =>
    intro v4 v8 v9 S h
    rw [g_X10_drawn_L85] at h
    refine j_iload hX 8 dX10_drawn_85 rfl ?_
    refine j_iconst hX dX10_drawn_87 (rc rfl) ?_
    refine j_icmp_ge hX (tgt := 175) dX10_drawn_88 (by decide) (fun hc => ?_) (fun hc => ?_)
    · rw [if_pos hc] at h
      refine j_sub [0, 1, 2, 3, 4, 5, 6, 7] rfl ?_
      exact K175 _ _ _ h
    · rw [if_neg hc] at h
      refine j_iload hX 3 dX10_drawn_91 rfl ?_
      refine j_ldcw (z := 1103515245) hX wd1636 (by decide) dX10_drawn_93 (rc rfl) ?_
      refine j_imul hX dX10_drawn_96 ?_
      refine j_sipush hX dX10_drawn_97 (rc rfl) (by decide) ?_
      refine j_iadd hX dX10_drawn_100 ?_
      obtain ⟨x2, hx, h⟩ := ap_s h
      rw [← hx]
      clear hx
      refine j_istore (L' := [(4, vI (x2)), (0, vR 56), (2, vI (v2)), (3, vI (v3)), (5, vI (v5)), (6, vI (v6)), (7, vI (v7)), (8, vI (v8)), (9, vI (v9))]) hX dX10_drawn_101 hnl (by decide) rfl ?_
      refine j_aload_n hX 1 dX10_drawn_103 rfl rfl ?_
      refine j_getS (k := 31) hX hfl cbX10 ty56 (by decide) rfl wd1171 rfl sb56_31 dX10_drawn_104 ?_
      refine j_iload hX 8 dX10_drawn_107 rfl ?_
      refine j_iload hX 0 dX10_drawn_109 rfl ?_
      refine j_bipush hX dX10_drawn_111 (rc rfl) (by decide) ?_
      refine j_iushr hX dX10_drawn_113 ?_
      refine j_aload_n hX 1 dX10_drawn_114 rfl rfl ?_
      refine j_getI (k := 1) hX hE cbX10 ty56 pc56 (by decide) rfl wd1141 rfl dX10_drawn_115 ?_
      obtain ⟨hz, h⟩ := chk_s h
      refine j_irem hX dX10_drawn_118 hz ?_
      obtain ⟨S3, hv, h⟩ := bs h
      refine j_iast hX hE ty77 pc77 hv dX10_drawn_119 ?_
      refine j_iload hX 7 dX10_drawn_120 rfl ?_
      refine j_aload_n hX 1 dX10_drawn_122 rfl rfl ?_
      refine j_getS (k := 3) hX hfl cbX10 ty56 (by decide) rfl wd1143 rfl sb56_3 dX10_drawn_123 ?_
      refine j_iload hX 0 dX10_drawn_126 rfl ?_
      refine j_bipush hX dX10_drawn_128 (rc rfl) (by decide) ?_
      refine j_iushr hX dX10_drawn_130 ?_
      refine j_bipush hX dX10_drawn_131 (rc rfl) (by decide) ?_
      refine j_irem hX dX10_drawn_133 (by decide) ?_
      refine j_aload_n hX 1 dX10_drawn_134 rfl rfl ?_
      refine j_getS (k := 10) hX hfl cbX10 ty56 (by decide) rfl wd1150 rfl sb56_10 dX10_drawn_135 ?_
      refine j_iconst hX dX10_drawn_138 (rc rfl) ?_
      refine j_iald hX hE ty64 pc64 (ldk_c (k := 1) (by decide)) dX10_drawn_139 ?_
      refine j_icmp_ge hX (tgt := 158) dX10_drawn_140 (by decide) (fun hc => ?_) (fun hc => ?_)
      · rw [if_pos hc] at h
        refine j_aload_n hX 1 dX10_drawn_158 rfl rfl ?_
        refine j_getS (k := 31) hX hfl cbX10 ty56 (by decide) rfl wd1171 rfl sb56_31 dX10_drawn_159 ?_
        refine j_iload hX 8 dX10_drawn_162 rfl ?_
        obtain ⟨x5, hv, h⟩ := bs h
        refine j_iald hX hE ty77 pc77 hv dX10_drawn_164 ?_
        obtain ⟨x6, hv, h⟩ := bs h
        refine j_iald hX hE ty58 pc58 hv dX10_drawn_165 ?_
        refine j_ior hX dX10_drawn_166 ?_
        refine j_istore (L' := [(8, vI (o_or v8 x6)), (4, vI (x2)), (0, vR 56), (2, vI (v2)), (3, vI (v3)), (5, vI (v5)), (6, vI (v6)), (7, vI (v7)), (9, vI (v9))]) hX dX10_drawn_167 hnl (by decide) rfl ?_
        refine j_iinc (L' := [(9, vI (w32 (v9 + 1))), (8, vI (o_or v8 x6)), (4, vI (x2)), (0, vR 56), (2, vI (v2)), (3, vI (v3)), (5, vI (v5)), (6, vI (v6)), (7, vI (v7))]) hX 8 dX10_drawn_169 hnl (by decide) rfl rfl ?_
        refine j_goto hX (tgt := 85) dX10_drawn_172 (by decide) ?_
        refine j_sub [3, 4, 5, 2, 6, 7, 8, 1, 0] rfl ?_
        exact ih _ _ _ _ h
      · rw [if_neg hc] at h
        refine j_aload_n hX 1 dX10_drawn_143 rfl rfl ?_
        refine j_getS (k := 6) hX hfl cbX10 ty56 (by decide) rfl wd1146 rfl sb56_6 dX10_drawn_144 ?_
        refine j_aload_n hX 1 dX10_drawn_147 rfl rfl ?_
        refine j_getS (k := 31) hX hfl cbX10 ty56 (by decide) rfl wd1171 rfl sb56_31 dX10_drawn_148 ?_
        refine j_iload hX 8 dX10_drawn_151 rfl ?_
        obtain ⟨x7, hv, h⟩ := bs h
        refine j_iald hX hE ty77 pc77 hv dX10_drawn_153 ?_
        obtain ⟨x8, hv, h⟩ := bs h
        refine j_iald hX hE ty61 pc61 hv dX10_drawn_154 ?_
        refine j_goto hX (tgt := 165) dX10_drawn_155 (by decide) ?_
        obtain ⟨x9, hv, h⟩ := bs h
        refine j_iald hX hE ty58 pc58 hv dX10_drawn_165 ?_
        refine j_ior hX dX10_drawn_166 ?_
        refine j_istore (L' := [(8, vI (o_or v8 x9)), (4, vI (x2)), (0, vR 56), (2, vI (v2)), (3, vI (v3)), (5, vI (v5)), (6, vI (v6)), (7, vI (v7)), (9, vI (v9))]) hX dX10_drawn_167 hnl (by decide) rfl ?_
        refine j_iinc (L' := [(9, vI (w32 (v9 + 1))), (8, vI (o_or v8 x9)), (4, vI (x2)), (0, vR 56), (2, vI (v2)), (3, vI (v3)), (5, vI (v5)), (6, vI (v6)), (7, vI (v7))]) hX 8 dX10_drawn_169 hnl (by decide) rfl rfl ?_
        refine j_goto hX (tgt := 85) dX10_drawn_172 (by decide) ?_
        refine j_sub [3, 4, 5, 2, 6, 7, 8, 1, 0] rfl ?_
        exact ih _ _ _ _ h
theorem sl_X10_drawn_53 {X : K0} {B : Nat → Nat} {n : Nat} {E : Mem → Mem} {r : Int} {S' : Mem} (hX : Ctx X cX10_drawn "TelegramFeelingsModel" 3) (hR : CR X (some .int)) (hfl : (gX X).2.2.2.2 = true) (hnl : X.2.2.2.2.2.2.2.2.2.2.2.2.2.2 = 10) (hE : Lens E PM) {k203 : Int → Int → Mem → Option (Int × Mem)} {v2 : Int} {v3 : Int} (K203 : ∀ (v5 : Int) (v6 : Int) (S : Mem), k203 v5 v6 S = some (r, S') → JW X B n 0 0 203 [(3, vI (v3)), (5, vI (v5)), (6, vI (v6))] [] (E S) (QM X (QcI (gX X) B n r (E S')))) : ∀ (fu : Nat) (v4 : Int) (v5 : Int) (v6 : Int) (v7 : Int) (S : Mem), g_X10_drawn_L53 k203 v2 v3 fu v4 v5 v6 v7 S = some (r, S') → JW X B n 0 0 53 [(0, vR 56), (2, vI (v2)), (3, vI (v3)), (4, vI (v4)), (5, vI (v5)), (6, vI (v6)), (7, vI (v7))] [] (E S) (QM X (QcI (gX X) B n r (E S'))) := by
  intro fu
  induction fu with
  | zero =>
    intro v4 v5 v6 v7 S h
    rw [g_X10_drawn_L53] at h
    cases h
  | succ fu ih =>
    intro v4 v5 v6 v7 S h
    rw [g_X10_drawn_L53] at h
    refine j_iload hX 6 dX10_drawn_53 rfl ?_
    refine j_iload_n hX 1 dX10_drawn_55 rfl rfl ?_
    refine j_bipush hX dX10_drawn_56 (rc rfl) (by decide) ?_
    refine j_idiv hX dX10_drawn_58 (by decide) ?_
    refine j_iload_n hX 1 dX10_drawn_59 rfl rfl ?_
    refine j_bipush hX dX10_drawn_60 (rc rfl) (by decide) ?_
    refine j_irem hX dX10_drawn_62 (by decide) ?_
    refine j_imul hX dX10_drawn_63 ?_
    refine j_icmp_ge hX (tgt := 203) dX10_drawn_64 (by decide) (fun hc => ?_) (fun hc => ?_)
    · rw [if_pos hc] at h
      refine j_sub [2, 4, 5] rfl ?_
      exact K203 _ _ _ h
    · rw [if_neg hc] at h
      refine j_aload_n hX 0 dX10_drawn_67 rfl rfl ?_
      refine j_getI (k := 1) hX hE cbX10 ty56 pc56 (by decide) rfl wd1141 rfl dX10_drawn_68 ?_
      refine j_if_le hX (tgt := 203) dX10_drawn_71 (by decide) (fun hc => ?_) (fun hc => ?_)
      · rw [if_pos hc] at h
        refine j_sub [2, 4, 5] rfl ?_
        exact K203 _ _ _ h
      · rw [if_neg hc] at h
        refine j_aload_n hX 0 dX10_drawn_74 rfl rfl ?_
        refine j_iconst hX dX10_drawn_75 (rc rfl) ?_
        refine j_putI (k := 32) hX hE cbX10 ty56 pc56 (by decide) rfl wd1172 rfl (Or.inl rfl) rfl dX10_drawn_76 ?_
        obtain ⟨S1, hx, h⟩ := ap_s h
        rw [← hx]
        clear hx
        refine j_iconst hX dX10_drawn_79 (rc rfl) ?_
        refine j_istore (L' := [(8, vI (0)), (0, vR 56), (2, vI (v2)), (3, vI (v3)), (4, vI (v4)), (5, vI (v5)), (6, vI (v6)), (7, vI (v7))]) hX dX10_drawn_80 hnl (by decide) rfl ?_
        refine j_iconst hX dX10_drawn_82 (rc rfl) ?_
        refine j_istore (L' := [(9, vI (0)), (8, vI (0)), (0, vR 56), (2, vI (v2)), (3, vI (v3)), (4, vI (v4)), (5, vI (v5)), (6, vI (v6)), (7, vI (v7))]) hX dX10_drawn_83 hnl (by decide) rfl ?_
        refine j_sub [2, 3, 4, 5, 6, 7, 8, 1, 0] rfl ?_
        refine sl_X10_drawn_85 hX hR hfl hnl hE (fun y11 y12 S10 h => ?_) _ _ _ _ _ h
        refine j_aload_n hX 0 dX10_drawn_175 rfl rfl ?_
        obtain ⟨x13, h1, h⟩ := bs h
        refine j_callVI hX mwX10_isRight miX10_isRight wd1508 cbX10 ty56 hyX10_isRight (by omega) (by decide) ⟨Nat.zero_le _, Nat.zero_le _⟩ dX10_drawn_176 (s_X10_isRight hfl hE h1) npX10_isRight rfl (Nat.le_of_ble_eq_true rfl) ?_
        refine j_if_eq hX (tgt := 185) dX10_drawn_179 (by decide) (fun hc => ?_) (fun hc => ?_)
        · rw [if_pos hc] at h
          refine j_iload hX 7 dX10_drawn_185 rfl ?_
          refine j_aload_n hX 0 dX10_drawn_187 rfl rfl ?_
          obtain ⟨x14, h1, h⟩ := bs h
          refine j_callVI hX mwX10_senseAll miX10_senseAll wd1504 cbX10 ty56 hyX10_senseAll (by omega) (by decide) ⟨Nat.zero_le _, Nat.zero_le _⟩ dX10_drawn_188 (s_X10_senseAll hfl hE h1) npX10_senseAll rfl (Nat.le_of_ble_eq_true rfl) ?_
          refine j_icmp_eq hX (tgt := 197) dX10_drawn_191 (by decide) (fun hc => ?_) (fun hc => ?_)
          · rw [if_pos hc] at h
            refine j_iinc (L' := [(7, vI (w32 (v7 + 1))), (0, vR 56), (2, vI (v2)), (3, vI (v3)), (4, vI (y11)), (5, vI (v5)), (6, vI (v6)), (8, vI (y12))]) hX 6 dX10_drawn_197 hnl (by decide) rfl rfl ?_
            refine j_goto hX (tgt := 53) dX10_drawn_200 (by decide) ?_
            refine j_sub [1, 2, 3, 4, 5, 6, 0] rfl ?_
            exact ih _ _ _ _ _ h
          · rw [if_neg hc] at h
            refine j_iinc (L' := [(6, vI (w32 (v6 + 1))), (0, vR 56), (2, vI (v2)), (3, vI (v3)), (4, vI (y11)), (5, vI (v5)), (7, vI (v7)), (8, vI (y12))]) hX 5 dX10_drawn_194 hnl (by decide) rfl rfl ?_
            refine j_iinc (L' := [(7, vI (w32 (v7 + 1))), (6, vI (w32 (v6 + 1))), (0, vR 56), (2, vI (v2)), (3, vI (v3)), (4, vI (y11)), (5, vI (v5)), (8, vI (y12))]) hX 6 dX10_drawn_197 hnl (by decide) rfl rfl ?_
            refine j_goto hX (tgt := 53) dX10_drawn_200 (by decide) ?_
            refine j_sub [2, 3, 4, 5, 6, 1, 0] rfl ?_
            exact ih _ _ _ _ _ h
        · rw [if_neg hc] at h
          refine j_iinc (L' := [(5, vI (w32 (v5 + 1))), (0, vR 56), (2, vI (v2)), (3, vI (v3)), (4, vI (y11)), (6, vI (v6)), (7, vI (v7)), (8, vI (y12))]) hX 4 dX10_drawn_182 hnl (by decide) rfl rfl ?_
          refine j_iload hX 7 dX10_drawn_185 rfl ?_
          refine j_aload_n hX 1 dX10_drawn_187 rfl rfl ?_
          obtain ⟨x15, h1, h⟩ := bs h
          refine j_callVI hX mwX10_senseAll miX10_senseAll wd1504 cbX10 ty56 hyX10_senseAll (by omega) (by decide) ⟨Nat.zero_le _, Nat.zero_le _⟩ dX10_drawn_188 (s_X10_senseAll hfl hE h1) npX10_senseAll rfl (Nat.le_of_ble_eq_true rfl) ?_
          refine j_icmp_eq hX (tgt := 197) dX10_drawn_191 (by decide) (fun hc => ?_) (fun hc => ?_)
          · rw [if_pos hc] at h
            refine j_iinc (L' := [(7, vI (w32 (v7 + 1))), (5, vI (w32 (v5 + 1))), (0, vR 56), (2, vI (v2)), (3, vI (v3)), (4, vI (y11)), (6, vI (v6)), (8, vI (y12))]) hX 6 dX10_drawn_197 hnl (by decide) rfl rfl ?_
            refine j_goto hX (tgt := 53) dX10_drawn_200 (by decide) ?_
            refine j_sub [2, 3, 4, 5, 1, 6, 0] rfl ?_
            exact ih _ _ _ _ _ h
          · rw [if_neg hc] at h
            refine j_iinc (L' := [(6, vI (w32 (v6 + 1))), (5, vI (w32 (v5 + 1))), (0, vR 56), (2, vI (v2)), (3, vI (v3)), (4, vI (y11)), (7, vI (v7)), (8, vI (y12))]) hX 5 dX10_drawn_194 hnl (by decide) rfl rfl ?_
            refine j_iinc (L' := [(7, vI (w32 (v7 + 1))), (6, vI (w32 (v6 + 1))), (5, vI (w32 (v5 + 1))), (0, vR 56), (2, vI (v2)), (3, vI (v3)), (4, vI (y11)), (8, vI (y12))]) hX 6 dX10_drawn_197 hnl (by decide) rfl rfl ?_
            refine j_goto hX (tgt := 53) dX10_drawn_200 (by decide) ?_
            refine j_sub [3, 4, 5, 6, 2, 1, 0] rfl ?_
            exact ih _ _ _ _ _ h
theorem s_X10_drawn {g : G0} {B : Nat → Nat} {n : Nat} {E : Mem → Mem} {a1 : Int} {a2 : Int} {a3 : Int} {S : Mem} {r : Int} {S' : Mem} (hfl : g.2.2.2.2 = true) (hE : Lens E PM) (h : g_X10_drawn a1 a2 a3 S = some (r, S')) : Cn g B n yX10_drawn cX10_drawn 10 (some .int) 3 [vR 56, vI (a1), vI (a2), vI (a3)] (E S) (QcI g B n r (E S')) := by
  refine Cn.of (by decide +kernel) (Nat.le_of_ble_eq_true rfl) (fun X hg hnl hX hR => ?_)
  subst hg
  have hX : Ctx X cX10_drawn "TelegramFeelingsModel" 3 := hX
  unfold g_X10_drawn at h
  show JW X B n 0 0 0 [(0, vR 56), (1, vI (a1)), (2, vI (a2)), (3, vI (a3))] [] (E S) (QM X (QcI (gX X) B n r (E S')))
  refine j_iload_n hX 2 dX10_drawn_0 rfl rfl ?_
  refine j_if_lt hX (tgt := 39) dX10_drawn_1 (by decide) (fun hc => ?_) (fun hc => ?_)
  · rw [if_pos hc] at h
    refine j_iconst hX dX10_drawn_39 (rc rfl) ?_
    cases h
    exact j_iret hX hR dX10_drawn_40
  · rw [if_neg hc] at h
    refine j_iload_n hX 2 dX10_drawn_4 rfl rfl ?_
    refine j_bipush hX dX10_drawn_5 (rc rfl) (by decide) ?_
    refine j_idiv hX dX10_drawn_7 (by decide) ?_
    refine j_iconst hX dX10_drawn_8 (rc rfl) ?_
    refine j_bipush hX dX10_drawn_9 (rc rfl) (by decide) ?_
    refine j_callSI hX mwX10_in msX10_in wd1326 hyX10_in (by omega) (by decide) ⟨Nat.zero_le _, Nat.zero_le _⟩ dX10_drawn_11 (s_X10_in hfl rfl) npX10_in rfl (Nat.le_of_ble_eq_true rfl) ?_
    refine j_if_eq hX (tgt := 39) dX10_drawn_14 (by decide) (fun hc => ?_) (fun hc => ?_)
    · rw [if_pos hc] at h
      refine j_iconst hX dX10_drawn_39 (rc rfl) ?_
      cases h
      exact j_iret hX hR dX10_drawn_40
    · rw [if_neg hc] at h
      refine j_iload_n hX 2 dX10_drawn_17 rfl rfl ?_
      refine j_bipush hX dX10_drawn_18 (rc rfl) (by decide) ?_
      refine j_irem hX dX10_drawn_20 (by decide) ?_
      refine j_iconst hX dX10_drawn_21 (rc rfl) ?_
      refine j_bipush hX dX10_drawn_22 (rc rfl) (by decide) ?_
      refine j_callSI hX mwX10_in msX10_in wd1326 hyX10_in (by omega) (by decide) ⟨Nat.zero_le _, Nat.zero_le _⟩ dX10_drawn_24 (s_X10_in hfl rfl) npX10_in rfl (Nat.le_of_ble_eq_true rfl) ?_
      refine j_if_eq hX (tgt := 39) dX10_drawn_27 (by decide) (fun hc => ?_) (fun hc => ?_)
      · rw [if_pos hc] at h
        refine j_iconst hX dX10_drawn_39 (rc rfl) ?_
        cases h
        exact j_iret hX hR dX10_drawn_40
      · rw [if_neg hc] at h
        refine j_iload_n hX 3 dX10_drawn_30 rfl rfl ?_
        refine j_iconst hX dX10_drawn_31 (rc rfl) ?_
        refine j_iconst hX dX10_drawn_32 (rc rfl) ?_
        refine j_callSI hX mwX10_in msX10_in wd1326 hyX10_in (by omega) (by decide) ⟨Nat.zero_le _, Nat.zero_le _⟩ dX10_drawn_33 (s_X10_in hfl rfl) npX10_in rfl (Nat.le_of_ble_eq_true rfl) ?_
        refine j_if_ne hX (tgt := 41) dX10_drawn_36 (by decide) (fun hc => ?_) (fun hc => ?_)
        · rw [if_neg hc] at h
          refine j_iload_n hX 1 dX10_drawn_41 rfl rfl ?_
          refine j_istore (L' := [(4, vI (a1)), (0, vR 56), (1, vI (a1)), (2, vI (a2)), (3, vI (a3))]) hX dX10_drawn_42 hnl (by decide) rfl ?_
          refine j_iconst hX dX10_drawn_44 (rc rfl) ?_
          refine j_istore (L' := [(5, vI (0)), (4, vI (a1)), (0, vR 56), (1, vI (a1)), (2, vI (a2)), (3, vI (a3))]) hX dX10_drawn_45 hnl (by decide) rfl ?_
          refine j_iconst hX dX10_drawn_47 (rc rfl) ?_
          refine j_istore (L' := [(6, vI (0)), (5, vI (0)), (4, vI (a1)), (0, vR 56), (1, vI (a1)), (2, vI (a2)), (3, vI (a3))]) hX dX10_drawn_48 hnl (by decide) rfl ?_
          refine j_iconst hX dX10_drawn_50 (rc rfl) ?_
          refine j_istore (L' := [(7, vI (0)), (6, vI (0)), (5, vI (0)), (4, vI (a1)), (0, vR 56), (1, vI (a1)), (2, vI (a2)), (3, vI (a3))]) hX dX10_drawn_51 hnl (by decide) rfl ?_
          refine j_sub [4, 6, 7, 3, 2, 1, 0] rfl ?_
          refine sl_X10_drawn_53 hX hR hfl hnl hE (fun y17 y18 S16 h => ?_) _ _ _ _ _ _ h
          refine j_iload_n hX 0 dX10_drawn_203 rfl rfl ?_
          refine j_if_ne hX (tgt := 212) dX10_drawn_204 (by decide) (fun hc => ?_) (fun hc => ?_)
          · rw [if_neg hc] at h
            refine j_iload hX 2 dX10_drawn_212 rfl ?_
            cases h
            exact j_iret hX hR dX10_drawn_214
          · rw [if_pos hc] at h
            refine j_iload hX 1 dX10_drawn_207 rfl ?_
            refine j_goto hX (tgt := 214) dX10_drawn_209 (by decide) ?_
            cases h
            exact j_iret hX hR dX10_drawn_214
        · rw [if_pos hc] at h
          refine j_iconst hX dX10_drawn_39 (rc rfl) ?_
          cases h
          exact j_iret hX hR dX10_drawn_40
theorem s_X10_send {g : G0} {B : Nat → Nat} {n : Nat} {E : Mem → Mem} {a1 : Int} {a2 : Int} {S : Mem} {r : Int} {S' : Mem} (hfl : g.2.2.2.2 = true) (hE : Lens E PM) (h : g_X10_send a1 a2 S = some (r, S')) : Cn g B n yX10_send cX10_send 6 (some .int) 7 [vR 56, vI (a1), vI (a2)] (E S) (QcI g B n r (E S')) := by
  refine Cn.of (by decide +kernel) (Nat.le_of_ble_eq_true rfl) (fun X hg hnl hX hR => ?_)
  subst hg
  have hX : Ctx X cX10_send "TelegramFeelingsModel" 7 := hX
  unfold g_X10_send at h
  show JW X B n 0 0 0 [(0, vR 56), (1, vI (a1)), (2, vI (a2))] [] (E S) (QM X (QcI (gX X) B n r (E S')))
  refine j_iload_n hX 1 dX10_send_0 rfl rfl ?_
  obtain ⟨x1, h1, h⟩ := bs h
  refine j_callSI hX mwX10_isShelf msX10_isShelf wd1337 hyX10_isShelf (by omega) (by decide) ⟨Nat.zero_le _, Nat.zero_le _⟩ dX10_send_1 (s_X10_isShelf hfl h1) npX10_isShelf rfl (Nat.le_of_ble_eq_true rfl) ?_
  refine j_if_eq hX (tgt := 44) dX10_send_4 (by decide) (fun hc => ?_) (fun hc => ?_)
  · rw [if_pos hc] at h
    refine j_iconst hX dX10_send_44 (rc rfl) ?_
    cases h
    exact j_iret hX hR dX10_send_45
  · rw [if_neg hc] at h
    refine j_iload_n hX 2 dX10_send_7 rfl rfl ?_
    refine j_if_lt hX (tgt := 44) dX10_send_8 (by decide) (fun hc => ?_) (fun hc => ?_)
    · rw [if_pos hc] at h
      refine j_iconst hX dX10_send_44 (rc rfl) ?_
      cases h
      exact j_iret hX hR dX10_send_45
    · rw [if_neg hc] at h
      refine j_aload_n hX 0 dX10_send_11 rfl rfl ?_
      refine j_iload_n hX 2 dX10_send_12 rfl rfl ?_
      refine j_bipush hX dX10_send_13 (rc rfl) (by decide) ?_
      refine j_idiv hX dX10_send_15 (by decide) ?_
      obtain ⟨x2, h1, h⟩ := bs h
      refine j_callVI hX mwX10_isPerson miX10_isPerson wd1369 cbX10 ty56 hyX10_isPerson (by omega) (by decide) ⟨Nat.zero_le _, Nat.zero_le _⟩ dX10_send_16 (s_X10_isPerson hfl hE h1) npX10_isPerson rfl (Nat.le_of_ble_eq_true rfl) ?_
      refine j_if_eq hX (tgt := 44) dX10_send_19 (by decide) (fun hc => ?_) (fun hc => ?_)
      · rw [if_pos hc] at h
        refine j_iconst hX dX10_send_44 (rc rfl) ?_
        cases h
        exact j_iret hX hR dX10_send_45
      · rw [if_neg hc] at h
        refine j_aload_n hX 0 dX10_send_22 rfl rfl ?_
        refine j_iload_n hX 2 dX10_send_23 rfl rfl ?_
        refine j_bipush hX dX10_send_24 (rc rfl) (by decide) ?_
        refine j_irem hX dX10_send_26 (by decide) ?_
        obtain ⟨x3, h1, h⟩ := bs h
        refine j_callVI hX mwX10_isPerson miX10_isPerson wd1369 cbX10 ty56 hyX10_isPerson (by omega) (by decide) ⟨Nat.zero_le _, Nat.zero_le _⟩ dX10_send_27 (s_X10_isPerson hfl hE h1) npX10_isPerson rfl (Nat.le_of_ble_eq_true rfl) ?_
        refine j_if_eq hX (tgt := 44) dX10_send_30 (by decide) (fun hc => ?_) (fun hc => ?_)
        · rw [if_pos hc] at h
          refine j_iconst hX dX10_send_44 (rc rfl) ?_
          cases h
          exact j_iret hX hR dX10_send_45
        · rw [if_neg hc] at h
          refine j_iload_n hX 2 dX10_send_33 rfl rfl ?_
          refine j_bipush hX dX10_send_34 (rc rfl) (by decide) ?_
          refine j_idiv hX dX10_send_36 (by decide) ?_
          refine j_iload_n hX 2 dX10_send_37 rfl rfl ?_
          refine j_bipush hX dX10_send_38 (rc rfl) (by decide) ?_
          refine j_irem hX dX10_send_40 (by decide) ?_
          refine j_icmp_ne hX (tgt := 46) dX10_send_41 (by decide) (fun hc => ?_) (fun hc => ?_)
          · rw [if_neg hc] at h
            refine j_aload_n hX 0 dX10_send_46 rfl rfl ?_
            refine j_iload_n hX 1 dX10_send_47 rfl rfl ?_
            refine j_iconst hX dX10_send_48 (rc rfl) ?_
            obtain ⟨x4, h1, h⟩ := bs h
            refine j_callVI hX mwX10_rowFault miX10_rowFault wd1475 cbX10 ty56 hyX10_rowFault (by omega) (by decide) ⟨Nat.zero_le _, Nat.zero_le _⟩ dX10_send_49 (s_X10_rowFault hfl hE h1) npX10_rowFault rfl (Nat.le_of_ble_eq_true rfl) ?_
            refine j_istore_n (L' := [(3, vI (x4)), (0, vR 56), (1, vI (a1)), (2, vI (a2))]) hX dX10_send_52 rfl hnl (by decide) rfl ?_
            refine j_iload_n hX 0 dX10_send_53 rfl rfl ?_
            refine j_if_ge hX (tgt := 59) dX10_send_54 (by decide) (fun hc => ?_) (fun hc => ?_)
            · rw [if_pos hc] at h
              refine j_aload_n hX 1 dX10_send_59 rfl rfl ?_
              refine j_iload_n hX 2 dX10_send_60 rfl rfl ?_
              obtain ⟨S5, h1, h⟩ := bs h
              refine j_callVV hX mwX10_layWired miX10_layWired wd1479 cbX10 ty56 hyX10_layWired (by omega) (by decide) ⟨Nat.zero_le _, Nat.zero_le _⟩ dX10_send_61 (s_X10_layWired hfl hE h1) npX10_layWired rfl (Nat.le_of_ble_eq_true rfl) ?_
              refine j_iload_n hX 3 dX10_send_64 rfl rfl ?_
              refine j_bipush hX dX10_send_65 (rc rfl) (by decide) ?_
              refine j_idiv hX dX10_send_67 (by decide) ?_
              refine j_istore (L' := [(4, vI (w32 (Int.tdiv a2 10))), (3, vI (x4)), (0, vR 56), (1, vI (a1)), (2, vI (a2))]) hX dX10_send_68 hnl (by decide) rfl ?_
              refine j_aload_n hX 2 dX10_send_70 rfl rfl ?_
              obtain ⟨x7, S6, h1, h⟩ := bd2_s h
              refine j_callVI hX mwX10_priceAll miX10_priceAll wd1500 cbX10 ty56 hyX10_priceAll (by omega) (by decide) ⟨Nat.zero_le _, Nat.zero_le _⟩ dX10_send_71 (s_X10_priceAll hfl hE h1) npX10_priceAll rfl (Nat.le_of_ble_eq_true rfl) ?_
              refine j_istore (L' := [(5, vI (x7)), (4, vI (w32 (Int.tdiv a2 10))), (3, vI (x4)), (0, vR 56), (1, vI (a1)), (2, vI (a2))]) hX dX10_send_74 hnl (by decide) rfl ?_
              refine j_aload_n hX 3 dX10_send_76 rfl rfl ?_
              obtain ⟨x8, h1, h⟩ := bs h
              refine j_callVI hX mwX10_isRight miX10_isRight wd1508 cbX10 ty56 hyX10_isRight (by omega) (by decide) ⟨Nat.zero_le _, Nat.zero_le _⟩ dX10_send_77 (s_X10_isRight hfl hE h1) npX10_isRight rfl (Nat.le_of_ble_eq_true rfl) ?_
              refine j_if_ne hX (tgt := 96) dX10_send_80 (by decide) (fun hc => ?_) (fun hc => ?_)
              · rw [if_neg hc] at h
                refine j_aload_n hX 3 dX10_send_96 rfl rfl ?_
                obtain ⟨x9, h1, h⟩ := bs h
                refine j_callVI hX mwX10_senseAll miX10_senseAll wd1504 cbX10 ty56 hyX10_senseAll (by omega) (by decide) ⟨Nat.zero_le _, Nat.zero_le _⟩ dX10_send_97 (s_X10_senseAll hfl hE h1) npX10_senseAll rfl (Nat.le_of_ble_eq_true rfl) ?_
                refine j_aload_n hX 3 dX10_send_100 rfl rfl ?_
                refine j_getS (k := 9) hX hfl cbX10 ty56 (by decide) rfl wd1149 rfl sb56_9 dX10_send_101 ?_
                refine j_iload hX 1 dX10_send_104 rfl ?_
                obtain ⟨x10, hv, h⟩ := bs h
                refine j_iald hX hE ty63 pc63 hv dX10_send_106 ?_
                refine j_iconst hX dX10_send_107 (rc rfl) ?_
                refine j_ixor hX dX10_send_108 ?_
                refine j_iand hX dX10_send_109 ?_
                refine j_if_ne hX (tgt := 125) dX10_send_110 (by decide) (fun hc => ?_) (fun hc => ?_)
                · rw [if_neg hc] at h
                  refine j_aload_n hX 3 dX10_send_125 rfl rfl ?_
                  refine j_getS (k := 45) hX hfl cbX10 ty56 (by decide) rfl wd1185 rfl sb56_45 dX10_send_126 ?_
                  refine j_iconst hX dX10_send_129 (rc rfl) ?_
                  refine j_dup2 hX dX10_send_130 rfl rfl ?_
                  refine j_iald hX hE ty87 pc87 (ldk_c (k := 3) (by decide)) dX10_send_131 ?_
                  refine j_iconst hX dX10_send_132 (rc rfl) ?_
                  refine j_iadd hX dX10_send_133 ?_
                  refine j_iast hX hE ty87 pc87 (stk_c (k := 3) (by decide)) dX10_send_134 ?_
                  obtain ⟨S12, hx, h⟩ := ap_s h
                  rw [← hx]
                  clear hx
                  refine j_bipush hX dX10_send_135 (rc rfl) (by decide) ?_
                  cases h
                  exact j_iret hX hR dX10_send_137
                · rw [if_pos hc] at h
                  refine j_iload hX 0 dX10_send_113 rfl ?_
                  refine j_aload_n hX 3 dX10_send_115 rfl rfl ?_
                  refine j_getS (k := 8) hX hfl cbX10 ty56 (by decide) rfl wd1148 rfl sb56_8 dX10_send_116 ?_
                  refine j_iload hX 1 dX10_send_119 rfl ?_
                  obtain ⟨x13, hv, h⟩ := bs h
                  refine j_iald hX hE ty62 pc62 hv dX10_send_121 ?_
                  refine j_icmp_le hX (tgt := 138) dX10_send_122 (by decide) (fun hc => ?_) (fun hc => ?_)
                  · rw [if_pos hc] at h
                    refine j_aload_n hX 3 dX10_send_138 rfl rfl ?_
                    refine j_getS (k := 8) hX hfl cbX10 ty56 (by decide) rfl wd1148 rfl sb56_8 dX10_send_139 ?_
                    refine j_iload hX 1 dX10_send_142 rfl ?_
                    refine j_dup2 hX dX10_send_144 rfl rfl ?_
                    obtain ⟨x14, hv, h⟩ := bs h
                    refine j_iald hX hE ty62 pc62 hv dX10_send_145 ?_
                    refine j_iload hX 0 dX10_send_146 rfl ?_
                    refine j_isub hX dX10_send_148 ?_
                    obtain ⟨S15, hv, h⟩ := bs h
                    refine j_iast hX hE ty62 pc62 hv dX10_send_149 ?_
                    refine j_aload_n hX 3 dX10_send_150 rfl rfl ?_
                    refine j_getS (k := 9) hX hfl cbX10 ty56 (by decide) rfl wd1149 rfl sb56_9 dX10_send_151 ?_
                    refine j_iload_n hX 5 dX10_send_154 rfl rfl ?_
                    refine j_bipush hX dX10_send_155 (rc rfl) (by decide) ?_
                    refine j_irem hX dX10_send_157 (by decide) ?_
                    refine j_dup2 hX dX10_send_158 rfl rfl ?_
                    obtain ⟨x16, hv, h⟩ := bs h
                    refine j_iald hX hE ty63 pc63 hv dX10_send_159 ?_
                    refine j_aload_n hX 3 dX10_send_160 rfl rfl ?_
                    obtain ⟨x17, h1, h⟩ := bs h
                    refine j_callVI hX mwX10_senseAll miX10_senseAll wd1504 cbX10 ty56 hyX10_senseAll (by omega) (by decide) ⟨Nat.zero_le _, Nat.zero_le _⟩ dX10_send_161 (s_X10_senseAll hfl hE h1) npX10_senseAll rfl (Nat.le_of_ble_eq_true rfl) ?_
                    refine j_ior hX dX10_send_164 ?_
                    obtain ⟨S18, hv, h⟩ := bs h
                    refine j_iast hX hE ty63 pc63 hv dX10_send_165 ?_
                    refine j_aload_n hX 3 dX10_send_166 rfl rfl ?_
                    refine j_getS (k := 45) hX hfl cbX10 ty56 (by decide) rfl wd1185 rfl sb56_45 dX10_send_167 ?_
                    refine j_iconst hX dX10_send_170 (rc rfl) ?_
                    refine j_dup2 hX dX10_send_171 rfl rfl ?_
                    refine j_iald hX hE ty87 pc87 (ldk_c (k := 0) (by decide)) dX10_send_172 ?_
                    refine j_iconst hX dX10_send_173 (rc rfl) ?_
                    refine j_iadd hX dX10_send_174 ?_
                    refine j_iast hX hE ty87 pc87 (stk_c (k := 0) (by decide)) dX10_send_175 ?_
                    obtain ⟨S20, hx, h⟩ := ap_s h
                    rw [← hx]
                    clear hx
                    refine j_aload_n hX 3 dX10_send_176 rfl rfl ?_
                    refine j_getS (k := 45) hX hfl cbX10 ty56 (by decide) rfl wd1185 rfl sb56_45 dX10_send_177 ?_
                    refine j_iconst hX dX10_send_180 (rc rfl) ?_
                    refine j_dup2 hX dX10_send_181 rfl rfl ?_
                    refine j_iald hX hE ty87 pc87 (ldk_c (k := 1) (by decide)) dX10_send_182 ?_
                    refine j_aload_n hX 3 dX10_send_183 rfl rfl ?_
                    refine j_getI (k := 32) hX hE cbX10 ty56 pc56 (by decide) rfl wd1172 rfl dX10_send_184 ?_
                    refine j_iadd hX dX10_send_187 ?_
                    refine j_iast hX hE ty87 pc87 (stk_c (k := 1) (by decide)) dX10_send_188 ?_
                    obtain ⟨S22, hx, h⟩ := ap_s h
                    rw [← hx]
                    clear hx
                    refine j_aload_n hX 3 dX10_send_189 rfl rfl ?_
                    refine j_getS (k := 45) hX hfl cbX10 ty56 (by decide) rfl wd1185 rfl sb56_45 dX10_send_190 ?_
                    refine j_iconst hX dX10_send_193 (rc rfl) ?_
                    refine j_dup2 hX dX10_send_194 rfl rfl ?_
                    refine j_iald hX hE ty87 pc87 (ldk_c (k := 2) (by decide)) dX10_send_195 ?_
                    refine j_iload hX 0 dX10_send_196 rfl ?_
                    refine j_iadd hX dX10_send_198 ?_
                    refine j_iast hX hE ty87 pc87 (stk_c (k := 2) (by decide)) dX10_send_199 ?_
                    obtain ⟨S24, hx, h⟩ := ap_s h
                    rw [← hx]
                    clear hx
                    refine j_aload_n hX 3 dX10_send_200 rfl rfl ?_
                    refine j_getS (k := 45) hX hfl cbX10 ty56 (by decide) rfl wd1185 rfl sb56_45 dX10_send_201 ?_
                    refine j_iconst hX dX10_send_204 (rc rfl) ?_
                    refine j_dup2 hX dX10_send_205 rfl rfl ?_
                    refine j_iald hX hE ty87 pc87 (ldk_c (k := 4) (by decide)) dX10_send_206 ?_
                    refine j_aload_n hX 3 dX10_send_207 rfl rfl ?_
                    refine j_getS (k := 10) hX hfl cbX10 ty56 (by decide) rfl wd1150 rfl sb56_10 dX10_send_208 ?_
                    refine j_iconst hX dX10_send_211 (rc rfl) ?_
                    refine j_iald hX hE ty64 pc64 (ldk_c (k := 0) (by decide)) dX10_send_212 ?_
                    refine j_iadd hX dX10_send_213 ?_
                    refine j_iast hX hE ty87 pc87 (stk_c (k := 4) (by decide)) dX10_send_214 ?_
                    obtain ⟨S27, hx, h⟩ := ap_s h
                    rw [← hx]
                    clear hx
                    refine j_iload hX 0 dX10_send_215 rfl ?_
                    cases h
                    exact j_iret hX hR dX10_send_217
                  · rw [if_neg hc] at h
                    refine j_aload_n hX 3 dX10_send_125 rfl rfl ?_
                    refine j_getS (k := 45) hX hfl cbX10 ty56 (by decide) rfl wd1185 rfl sb56_45 dX10_send_126 ?_
                    refine j_iconst hX dX10_send_129 (rc rfl) ?_
                    refine j_dup2 hX dX10_send_130 rfl rfl ?_
                    refine j_iald hX hE ty87 pc87 (ldk_c (k := 3) (by decide)) dX10_send_131 ?_
                    refine j_iconst hX dX10_send_132 (rc rfl) ?_
                    refine j_iadd hX dX10_send_133 ?_
                    refine j_iast hX hE ty87 pc87 (stk_c (k := 3) (by decide)) dX10_send_134 ?_
                    obtain ⟨S29, hx, h⟩ := ap_s h
                    rw [← hx]
                    clear hx
                    refine j_bipush hX dX10_send_135 (rc rfl) (by decide) ?_
                    cases h
                    exact j_iret hX hR dX10_send_137
              · rw [if_pos hc] at h
                refine j_aload_n hX 3 dX10_send_83 rfl rfl ?_
                refine j_getS (k := 45) hX hfl cbX10 ty56 (by decide) rfl wd1185 rfl sb56_45 dX10_send_84 ?_
                refine j_iconst hX dX10_send_87 (rc rfl) ?_
                refine j_dup2 hX dX10_send_88 rfl rfl ?_
                refine j_iald hX hE ty87 pc87 (ldk_c (k := 3) (by decide)) dX10_send_89 ?_
                refine j_iconst hX dX10_send_90 (rc rfl) ?_
                refine j_iadd hX dX10_send_91 ?_
                refine j_iast hX hE ty87 pc87 (stk_c (k := 3) (by decide)) dX10_send_92 ?_
                obtain ⟨S31, hx, h⟩ := ap_s h
                rw [← hx]
                clear hx
                refine j_bipush hX dX10_send_93 (rc rfl) (by decide) ?_
                cases h
                exact j_iret hX hR dX10_send_95
            · rw [if_neg hc] at h
              refine j_iload_n hX 0 dX10_send_57 rfl rfl ?_
              cases h
              exact j_iret hX hR dX10_send_58
          · rw [if_pos hc] at h
            refine j_iconst hX dX10_send_44 (rc rfl) ?_
            cases h
            exact j_iret hX hR dX10_send_45
theorem s_X10_night {g : G0} {B : Nat → Nat} {n : Nat} {E : Mem → Mem}  {S : Mem} {r : Int} {S' : Mem} (hfl : g.2.2.2.2 = true) (hE : Lens E PM) (h : g_X10_night S = some (r, S')) : Cn g B n yX10_night cX10_night 1 (some .int) 1 [vR 56] (E S) (QcI g B n r (E S')) := by
  refine Cn.of (by decide +kernel) (Nat.le_of_ble_eq_true rfl) (fun X hg hnl hX hR => ?_)
  subst hg
  have hX : Ctx X cX10_night "TelegramFeelingsModel" 1 := hX
  unfold g_X10_night at h
  show JW X B n 0 0 0 [(0, vR 56)] [] (E S) (QM X (QcI (gX X) B n r (E S')))
  refine j_aload_n hX 0 dX10_night_0 rfl rfl ?_
  refine j_getS (k := 10) hX hfl cbX10 ty56 (by decide) rfl wd1150 rfl sb56_10 dX10_night_1 ?_
  refine j_iconst hX dX10_night_4 (rc rfl) ?_
  refine j_iconst hX dX10_night_5 (rc rfl) ?_
  refine j_aload_n hX 0 dX10_night_6 rfl rfl ?_
  refine j_getS (k := 10) hX hfl cbX10 ty56 (by decide) rfl wd1150 rfl sb56_10 dX10_night_7 ?_
  refine j_iconst hX dX10_night_10 (rc rfl) ?_
  refine j_iald hX hE ty64 pc64 (ldk_c (k := 0) (by decide)) dX10_night_11 ?_
  refine j_isub hX dX10_night_12 ?_
  refine j_iast hX hE ty64 pc64 (stk_c (k := 0) (by decide)) dX10_night_13 ?_
  obtain ⟨S2, hx, h⟩ := ap_s h
  rw [← hx]
  clear hx
  refine j_aload_n hX 0 dX10_night_14 rfl rfl ?_
  refine j_getS (k := 10) hX hfl cbX10 ty56 (by decide) rfl wd1150 rfl sb56_10 dX10_night_15 ?_
  refine j_iconst hX dX10_night_18 (rc rfl) ?_
  refine j_iald hX hE ty64 pc64 (ldk_c (k := 0) (by decide)) dX10_night_19 ?_
  cases h
  exact j_iret hX hR dX10_night_20
theorem s_X10_led {g : G0} {B : Nat → Nat} {n : Nat} {E : Mem → Mem} {a1 : Int} {S : Mem} {r : Int} (hfl : g.2.2.2.2 = true) (hE : Lens E PM) (h : g_X10_led a1 S = some r) : Cn g B n yX10_led cX10_led 2 (some .int) 2 [vR 56, vI (a1)] (E S) (QcI g B n r (E S)) := by
  refine Cn.of (by decide +kernel) (Nat.le_of_ble_eq_true rfl) (fun X hg hnl hX hR => ?_)
  subst hg
  have hX : Ctx X cX10_led "TelegramFeelingsModel" 2 := hX
  unfold g_X10_led at h
  show JW X B n 0 0 0 [(0, vR 56), (1, vI (a1))] [] (E S) (QM X (QcI (gX X) B n r (E S)))
  refine j_iload_n hX 1 dX10_led_0 rfl rfl ?_
  refine j_iconst hX dX10_led_1 (rc rfl) ?_
  refine j_iconst hX dX10_led_2 (rc rfl) ?_
  refine j_callSI hX mwX10_in msX10_in wd1326 hyX10_in (by omega) (by decide) ⟨Nat.zero_le _, Nat.zero_le _⟩ dX10_led_3 (s_X10_in hfl rfl) npX10_in rfl (Nat.le_of_ble_eq_true rfl) ?_
  refine j_if_eq hX (tgt := 18) dX10_led_6 (by decide) (fun hc => ?_) (fun hc => ?_)
  · rw [if_pos hc] at h
    refine j_iconst hX dX10_led_18 (rc rfl) ?_
    cases h
    exact j_iret hX hR dX10_led_19
  · rw [if_neg hc] at h
    refine j_aload_n hX 0 dX10_led_9 rfl rfl ?_
    refine j_getS (k := 45) hX hfl cbX10 ty56 (by decide) rfl wd1185 rfl sb56_45 dX10_led_10 ?_
    refine j_iload_n hX 1 dX10_led_13 rfl rfl ?_
    obtain ⟨x1, hv, h⟩ := bs h
    refine j_iald hX hE ty87 pc87 hv dX10_led_14 ?_
    refine j_goto hX (tgt := 19) dX10_led_15 (by decide) ?_
    cases h
    exact j_iret hX hR dX10_led_19
theorem sl_X10_image_25 {X : K0} {B : Nat → Nat} {n : Nat} {E : Mem → Mem} {r : Int} {S' : Mem} (hX : Ctx X cX10_image "TelegramFeelingsModel" 1) (hR : CR X (some .int)) (hfl : (gX X).2.2.2.2 = true) (hnl : X.2.2.2.2.2.2.2.2.2.2.2.2.2.2 = 2) (hE : Lens E PM) {k63 : Mem → Option (Int × Mem)}  (K63 : ∀ (S : Mem), k63 S = some (r, S') → JW X B n 0 0 63 [(0, vR 56)] [] (E S) (QM X (QcI (gX X) B n r (E S')))) : ∀ (fu : Nat) (v1 : Int) (S : Mem), g_X10_image_L25 k63 fu v1 S = some (r, S') → JW X B n 0 0 25 [(0, vR 56), (1, vI (v1))] [] (E S) (QM X (QcI (gX X) B n r (E S'))) := by
  intro fu
  induction fu with
  | zero =>
    intro v1 S h
    rw [g_X10_image_L25] at h
    cases h
  | succ fu ih =>
    intro v1 S h
    rw [g_X10_image_L25] at h
    refine j_iload_n hX 1 dX10_image_25 rfl rfl ?_
    refine j_aload_n hX 0 dX10_image_26 rfl rfl ?_
    refine j_getI (k := 7) hX hE cbX10 ty56 pc56 (by decide) rfl wd1147 rfl dX10_image_27 ?_
    refine j_icmp_ge hX (tgt := 63) dX10_image_30 (by decide) (fun hc => ?_) (fun hc => ?_)
    · rw [if_pos hc] at h
      refine j_sub [0] rfl ?_
      exact K63 _ h
    · rw [if_neg hc] at h
      refine j_aload_n hX 0 dX10_image_33 rfl rfl ?_
      refine j_getS (k := 49) hX hfl cbX10 ty56 (by decide) rfl wd1189 rfl sb56_49 dX10_image_34 ?_
      refine j_iload_n hX 1 dX10_image_37 rfl rfl ?_
      refine j_aload_n hX 0 dX10_image_38 rfl rfl ?_
      refine j_getS (k := 8) hX hfl cbX10 ty56 (by decide) rfl wd1148 rfl sb56_8 dX10_image_39 ?_
      refine j_iload_n hX 1 dX10_image_42 rfl rfl ?_
      obtain ⟨x5, hv, h⟩ := bs h
      refine j_iald hX hE ty62 pc62 hv dX10_image_43 ?_
      obtain ⟨S6, hv, h⟩ := bs h
      refine j_iast hX hE ty88 pc88 hv dX10_image_44 ?_
      refine j_aload_n hX 0 dX10_image_45 rfl rfl ?_
      refine j_getS (k := 50) hX hfl cbX10 ty56 (by decide) rfl wd1190 rfl sb56_50 dX10_image_46 ?_
      refine j_iload_n hX 1 dX10_image_49 rfl rfl ?_
      refine j_aload_n hX 0 dX10_image_50 rfl rfl ?_
      refine j_getS (k := 9) hX hfl cbX10 ty56 (by decide) rfl wd1149 rfl sb56_9 dX10_image_51 ?_
      refine j_iload_n hX 1 dX10_image_54 rfl rfl ?_
      obtain ⟨x7, hv, h⟩ := bs h
      refine j_iald hX hE ty63 pc63 hv dX10_image_55 ?_
      obtain ⟨S8, hv, h⟩ := bs h
      refine j_iast hX hE ty89 pc89 hv dX10_image_56 ?_
      refine j_iinc (L' := [(1, vI (w32 (v1 + 1))), (0, vR 56)]) hX 1 dX10_image_57 hnl (by decide) rfl rfl ?_
      refine j_goto hX (tgt := 25) dX10_image_60 (by decide) ?_
      refine j_sub [1, 0] rfl ?_
      exact ih _ _ h
theorem sl_X10_image_65 {X : K0} {B : Nat → Nat} {n : Nat} {E : Mem → Mem} {r : Int} {S' : Mem} (hX : Ctx X cX10_image "TelegramFeelingsModel" 1) (hR : CR X (some .int)) (hfl : (gX X).2.2.2.2 = true) (hnl : X.2.2.2.2.2.2.2.2.2.2.2.2.2.2 = 2) (hE : Lens E PM)    : ∀ (fu : Nat) (v1 : Int) (S : Mem), g_X10_image_L65 fu v1 S = some (r, S') → JW X B n 0 0 65 [(0, vR 56), (1, vI (v1))] [] (E S) (QM X (QcI (gX X) B n r (E S'))) := by
  intro fu
  induction fu with
  | zero =>
    intro v1 S h
    rw [g_X10_image_L65] at h
    cases h
  | succ fu ih =>
    intro v1 S h
    rw [g_X10_image_L65] at h
    refine j_iload_n hX 1 dX10_image_65 rfl rfl ?_
    refine j_iconst hX dX10_image_66 (rc rfl) ?_
    refine j_icmp_ge hX (tgt := 88) dX10_image_67 (by decide) (fun hc => ?_) (fun hc => ?_)
    · rw [if_pos hc] at h
      refine j_aload_n hX 0 dX10_image_88 rfl rfl ?_
      refine j_getS (k := 45) hX hfl cbX10 ty56 (by decide) rfl wd1185 rfl sb56_45 dX10_image_89 ?_
      refine j_iconst hX dX10_image_92 (rc rfl) ?_
      refine j_iald hX hE ty87 pc87 (ldk_c (k := 0) (by decide)) dX10_image_93 ?_
      cases h
      exact j_iret hX hR dX10_image_94
    · rw [if_neg hc] at h
      refine j_aload_n hX 0 dX10_image_70 rfl rfl ?_
      refine j_getS (k := 51) hX hfl cbX10 ty56 (by decide) rfl wd1191 rfl sb56_51 dX10_image_71 ?_
      refine j_iload_n hX 1 dX10_image_74 rfl rfl ?_
      refine j_aload_n hX 0 dX10_image_75 rfl rfl ?_
      refine j_getS (k := 45) hX hfl cbX10 ty56 (by decide) rfl wd1185 rfl sb56_45 dX10_image_76 ?_
      refine j_iload_n hX 1 dX10_image_79 rfl rfl ?_
      obtain ⟨x11, hv, h⟩ := bs h
      refine j_iald hX hE ty87 pc87 hv dX10_image_80 ?_
      obtain ⟨S12, hv, h⟩ := bs h
      refine j_iast hX hE ty90 pc90 hv dX10_image_81 ?_
      refine j_iinc (L' := [(1, vI (w32 (v1 + 1))), (0, vR 56)]) hX 1 dX10_image_82 hnl (by decide) rfl rfl ?_
      refine j_goto hX (tgt := 65) dX10_image_85 (by decide) ?_
      refine j_sub [1, 0] rfl ?_
      exact ih _ _ h
theorem s_X10_image {g : G0} {B : Nat → Nat} {n : Nat} {E : Mem → Mem}  {S : Mem} {r : Int} {S' : Mem} (hfl : g.2.2.2.2 = true) (hE : Lens E PM) (h : g_X10_image S = some (r, S')) : Cn g B n yX10_image cX10_image 2 (some .int) 1 [vR 56] (E S) (QcI g B n r (E S')) := by
  refine Cn.of (by decide +kernel) (Nat.le_of_ble_eq_true rfl) (fun X hg hnl hX hR => ?_)
  subst hg
  have hX : Ctx X cX10_image "TelegramFeelingsModel" 1 := hX
  unfold g_X10_image at h
  show JW X B n 0 0 0 [(0, vR 56)] [] (E S) (QM X (QcI (gX X) B n r (E S')))
  refine j_aload_n hX 0 dX10_image_0 rfl rfl ?_
  refine j_iconst hX dX10_image_1 (rc rfl) ?_
  refine j_putI (k := 46) hX hE cbX10 ty56 pc56 (by decide) rfl wd1186 rfl (Or.inr ⟨rfl, Or.inr rfl⟩) rfl dX10_image_2 ?_
  obtain ⟨S1, hx, h⟩ := ap_s h
  rw [← hx]
  clear hx
  refine j_aload_n hX 0 dX10_image_5 rfl rfl ?_
  refine j_aload_n hX 0 dX10_image_6 rfl rfl ?_
  refine j_getI (k := 7) hX hE cbX10 ty56 pc56 (by decide) rfl wd1147 rfl dX10_image_7 ?_
  refine j_putI (k := 47) hX hE cbX10 ty56 pc56 (by decide) rfl wd1187 rfl (Or.inl rfl) rfl dX10_image_10 ?_
  obtain ⟨S2, hx, h⟩ := ap_s h
  rw [← hx]
  clear hx
  refine j_aload_n hX 0 dX10_image_13 rfl rfl ?_
  refine j_aload_n hX 0 dX10_image_14 rfl rfl ?_
  refine j_getS (k := 10) hX hfl cbX10 ty56 (by decide) rfl wd1150 rfl sb56_10 dX10_image_15 ?_
  refine j_iconst hX dX10_image_18 (rc rfl) ?_
  refine j_iald hX hE ty64 pc64 (ldk_c (k := 0) (by decide)) dX10_image_19 ?_
  refine j_putI (k := 48) hX hE cbX10 ty56 pc56 (by decide) rfl wd1188 rfl (Or.inl rfl) rfl dX10_image_20 ?_
  obtain ⟨S4, hx, h⟩ := ap_s h
  rw [← hx]
  clear hx
  refine j_iconst hX dX10_image_23 (rc rfl) ?_
  refine j_istore_n (L' := [(1, vI (0)), (0, vR 56)]) hX dX10_image_24 rfl hnl (by decide) rfl ?_
  refine j_sub [1, 0] rfl ?_
  refine sl_X10_image_25 hX hR hfl hnl hE (fun S9 h => ?_) _ _ _ h
  refine j_iconst hX dX10_image_63 (rc rfl) ?_
  refine j_istore_n (L' := [(1, vI (0)), (0, vR 56)]) hX dX10_image_64 rfl hnl (by decide) rfl ?_
  refine j_sub [1, 0] rfl ?_
  refine sl_X10_image_65 hX hR hfl hnl hE  _ _ _ h
theorem sl_X10_back_22 {X : K0} {B : Nat → Nat} {n : Nat} {E : Mem → Mem} {r : Int} {S' : Mem} (hX : Ctx X cX10_back "TelegramFeelingsModel" 1) (hR : CR X (some .int)) (hfl : (gX X).2.2.2.2 = true) (hnl : X.2.2.2.2.2.2.2.2.2.2.2.2.2.2 = 2) (hE : Lens E PM) {k60 : Mem → Option (Int × Mem)}  (K60 : ∀ (S : Mem), k60 S = some (r, S') → JW X B n 0 0 60 [(0, vR 56)] [] (E S) (QM X (QcI (gX X) B n r (E S')))) : ∀ (fu : Nat) (v1 : Int) (S : Mem), g_X10_back_L22 k60 fu v1 S = some (r, S') → JW X B n 0 0 22 [(0, vR 56), (1, vI (v1))] [] (E S) (QM X (QcI (gX X) B n r (E S'))) := by
  intro fu
  induction fu with
  | zero =>
    intro v1 S h
    rw [g_X10_back_L22] at h
    cases h
  | succ fu ih =>
    intro v1 S h
    rw [g_X10_back_L22] at h
    refine j_iload_n hX 1 dX10_back_22 rfl rfl ?_
    refine j_aload_n hX 0 dX10_back_23 rfl rfl ?_
    refine j_getI (k := 47) hX hE cbX10 ty56 pc56 (by decide) rfl wd1187 rfl dX10_back_24 ?_
    refine j_icmp_ge hX (tgt := 60) dX10_back_27 (by decide) (fun hc => ?_) (fun hc => ?_)
    · rw [if_pos hc] at h
      refine j_sub [0] rfl ?_
      exact K60 _ h
    · rw [if_neg hc] at h
      refine j_aload_n hX 0 dX10_back_30 rfl rfl ?_
      refine j_getS (k := 8) hX hfl cbX10 ty56 (by decide) rfl wd1148 rfl sb56_8 dX10_back_31 ?_
      refine j_iload_n hX 1 dX10_back_34 rfl rfl ?_
      refine j_aload_n hX 0 dX10_back_35 rfl rfl ?_
      refine j_getS (k := 49) hX hfl cbX10 ty56 (by decide) rfl wd1189 rfl sb56_49 dX10_back_36 ?_
      refine j_iload_n hX 1 dX10_back_39 rfl rfl ?_
      obtain ⟨x2, hv, h⟩ := bs h
      refine j_iald hX hE ty88 pc88 hv dX10_back_40 ?_
      obtain ⟨S3, hv, h⟩ := bs h
      refine j_iast hX hE ty62 pc62 hv dX10_back_41 ?_
      refine j_aload_n hX 0 dX10_back_42 rfl rfl ?_
      refine j_getS (k := 9) hX hfl cbX10 ty56 (by decide) rfl wd1149 rfl sb56_9 dX10_back_43 ?_
      refine j_iload_n hX 1 dX10_back_46 rfl rfl ?_
      refine j_aload_n hX 0 dX10_back_47 rfl rfl ?_
      refine j_getS (k := 50) hX hfl cbX10 ty56 (by decide) rfl wd1190 rfl sb56_50 dX10_back_48 ?_
      refine j_iload_n hX 1 dX10_back_51 rfl rfl ?_
      obtain ⟨x4, hv, h⟩ := bs h
      refine j_iald hX hE ty89 pc89 hv dX10_back_52 ?_
      obtain ⟨S5, hv, h⟩ := bs h
      refine j_iast hX hE ty63 pc63 hv dX10_back_53 ?_
      refine j_iinc (L' := [(1, vI (w32 (v1 + 1))), (0, vR 56)]) hX 1 dX10_back_54 hnl (by decide) rfl rfl ?_
      refine j_goto hX (tgt := 22) dX10_back_57 (by decide) ?_
      refine j_sub [1, 0] rfl ?_
      exact ih _ _ h
theorem sl_X10_back_62 {X : K0} {B : Nat → Nat} {n : Nat} {E : Mem → Mem} {r : Int} {S' : Mem} (hX : Ctx X cX10_back "TelegramFeelingsModel" 1) (hR : CR X (some .int)) (hfl : (gX X).2.2.2.2 = true) (hnl : X.2.2.2.2.2.2.2.2.2.2.2.2.2.2 = 2) (hE : Lens E PM)    : ∀ (fu : Nat) (v1 : Int) (S : Mem), g_X10_back_L62 fu v1 S = some (r, S') → JW X B n 0 0 62 [(0, vR 56), (1, vI (v1))] [] (E S) (QM X (QcI (gX X) B n r (E S'))) := by
  intro fu
  induction fu with
  | zero =>
    intro v1 S h
    rw [g_X10_back_L62] at h
    cases h
  | succ fu ih =>
    intro v1 S h
    rw [g_X10_back_L62] at h
    refine j_iload_n hX 1 dX10_back_62 rfl rfl ?_
    refine j_iconst hX dX10_back_63 (rc rfl) ?_
    refine j_icmp_ge hX (tgt := 85) dX10_back_64 (by decide) (fun hc => ?_) (fun hc => ?_)
    · rw [if_pos hc] at h
      refine j_aload_n hX 0 dX10_back_85 rfl rfl ?_
      refine j_getS (k := 45) hX hfl cbX10 ty56 (by decide) rfl wd1185 rfl sb56_45 dX10_back_86 ?_
      refine j_iconst hX dX10_back_89 (rc rfl) ?_
      refine j_iald hX hE ty87 pc87 (ldk_c (k := 0) (by decide)) dX10_back_90 ?_
      cases h
      exact j_iret hX hR dX10_back_91
    · rw [if_neg hc] at h
      refine j_aload_n hX 0 dX10_back_67 rfl rfl ?_
      refine j_getS (k := 45) hX hfl cbX10 ty56 (by decide) rfl wd1185 rfl sb56_45 dX10_back_68 ?_
      refine j_iload_n hX 1 dX10_back_71 rfl rfl ?_
      refine j_aload_n hX 0 dX10_back_72 rfl rfl ?_
      refine j_getS (k := 51) hX hfl cbX10 ty56 (by decide) rfl wd1191 rfl sb56_51 dX10_back_73 ?_
      refine j_iload_n hX 1 dX10_back_76 rfl rfl ?_
      obtain ⟨x8, hv, h⟩ := bs h
      refine j_iald hX hE ty90 pc90 hv dX10_back_77 ?_
      obtain ⟨S9, hv, h⟩ := bs h
      refine j_iast hX hE ty87 pc87 hv dX10_back_78 ?_
      refine j_iinc (L' := [(1, vI (w32 (v1 + 1))), (0, vR 56)]) hX 1 dX10_back_79 hnl (by decide) rfl rfl ?_
      refine j_goto hX (tgt := 62) dX10_back_82 (by decide) ?_
      refine j_sub [1, 0] rfl ?_
      exact ih _ _ h
theorem s_X10_back {g : G0} {B : Nat → Nat} {n : Nat} {E : Mem → Mem}  {S : Mem} {r : Int} {S' : Mem} (hfl : g.2.2.2.2 = true) (hE : Lens E PM) (h : g_X10_back S = some (r, S')) : Cn g B n yX10_back cX10_back 2 (some .int) 1 [vR 56] (E S) (QcI g B n r (E S')) := by
  refine Cn.of (by decide +kernel) (Nat.le_of_ble_eq_true rfl) (fun X hg hnl hX hR => ?_)
  subst hg
  have hX : Ctx X cX10_back "TelegramFeelingsModel" 1 := hX
  unfold g_X10_back at h
  show JW X B n 0 0 0 [(0, vR 56)] [] (E S) (QM X (QcI (gX X) B n r (E S')))
  refine j_aload_n hX 0 dX10_back_0 rfl rfl ?_
  refine j_getI (k := 46) hX hE cbX10 ty56 pc56 (by decide) rfl wd1186 rfl dX10_back_1 ?_
  refine j_if_ne hX (tgt := 10) dX10_back_4 (by decide) (fun hc => ?_) (fun hc => ?_)
  · rw [if_neg hc] at h
    refine j_aload_n hX 0 dX10_back_10 rfl rfl ?_
    refine j_getS (k := 10) hX hfl cbX10 ty56 (by decide) rfl wd1150 rfl sb56_10 dX10_back_11 ?_
    refine j_iconst hX dX10_back_14 (rc rfl) ?_
    refine j_aload_n hX 0 dX10_back_15 rfl rfl ?_
    refine j_getI (k := 48) hX hE cbX10 ty56 pc56 (by decide) rfl wd1188 rfl dX10_back_16 ?_
    refine j_iast hX hE ty64 pc64 (stk_c (k := 0) (by decide)) dX10_back_19 ?_
    obtain ⟨S1, hx, h⟩ := ap_s h
    rw [← hx]
    clear hx
    refine j_iconst hX dX10_back_20 (rc rfl) ?_
    refine j_istore_n (L' := [(1, vI (0)), (0, vR 56)]) hX dX10_back_21 rfl hnl (by decide) rfl ?_
    refine j_sub [1, 0] rfl ?_
    refine sl_X10_back_22 hX hR hfl hnl hE (fun S6 h => ?_) _ _ _ h
    refine j_iconst hX dX10_back_60 (rc rfl) ?_
    refine j_istore_n (L' := [(1, vI (0)), (0, vR 56)]) hX dX10_back_61 rfl hnl (by decide) rfl ?_
    refine j_sub [1, 0] rfl ?_
    refine sl_X10_back_62 hX hR hfl hnl hE  _ _ _ h
  · rw [if_pos hc] at h
    refine j_bipush hX dX10_back_7 (rc rfl) (by decide) ?_
    cases h
    exact j_iret hX hR dX10_back_9
theorem s_X10_isBody {g : G0} {B : Nat → Nat} {n : Nat} {E : Mem → Mem} {a1 : Int} {S : Mem} {r : Int} (hfl : g.2.2.2.2 = true) (hE : Lens E PM) (h : g_X10_isBody a1 S = some r) : Cn g B n yX10_isBody cX10_isBody 2 (some .boolean) 2 [vR 56, vI (a1)] (E S) (QcI g B n r (E S)) := by
  refine Cn.of (by decide +kernel) (Nat.le_of_ble_eq_true rfl) (fun X hg hnl hX hR => ?_)
  subst hg
  have hX : Ctx X cX10_isBody "TelegramFeelingsModel" 2 := hX
  unfold g_X10_isBody at h
  show JW X B n 0 0 0 [(0, vR 56), (1, vI (a1))] [] (E S) (QM X (QcI (gX X) B n r (E S)))
  refine j_iload_n hX 1 dX10_isBody_0 rfl rfl ?_
  refine j_iconst hX dX10_isBody_1 (rc rfl) ?_
  refine j_aload_n hX 0 dX10_isBody_2 rfl rfl ?_
  refine j_getI (k := 52) hX hE cbX10 ty56 pc56 (by decide) rfl wd1192 rfl dX10_isBody_3 ?_
  refine j_iconst hX dX10_isBody_6 (rc rfl) ?_
  refine j_isub hX dX10_isBody_7 ?_
  refine j_callSI hX mwX10_in msX10_in wd1326 hyX10_in (by omega) (by decide) ⟨Nat.zero_le _, Nat.zero_le _⟩ dX10_isBody_8 (s_X10_in hfl rfl) npX10_in rfl (Nat.le_of_ble_eq_true rfl) ?_
  obtain ⟨hz, h⟩ := chk_s h
  cases h
  exact j_zret hX hR hz dX10_isBody_11
theorem s_X10_ran {g : G0} {B : Nat → Nat} {n : Nat} {E : Mem → Mem} {a1 : Int} {S : Mem} {S' : Mem} (hfl : g.2.2.2.2 = true) (hE : Lens E PM) (h : g_X10_ran a1 S = some S') : Cn g B n yX10_ran cX10_ran 2 none 1 [vR 56, vI (a1)] (E S) (QcV g B n (E S')) := by
  refine Cn.of (by decide +kernel) (Nat.le_of_ble_eq_true rfl) (fun X hg hnl hX hR => ?_)
  subst hg
  have hX : Ctx X cX10_ran "TelegramFeelingsModel" 1 := hX
  unfold g_X10_ran at h
  show JW X B n 0 0 0 [(0, vR 56), (1, vI (a1))] [] (E S) (QM X (QcV (gX X) B n (E S')))
  refine j_aload_n hX 0 dX10_ran_0 rfl rfl ?_
  refine j_getI (k := 54) hX hE cbX10 ty56 pc56 (by decide) rfl wd1194 rfl dX10_ran_1 ?_
  refine j_bipush hX dX10_ran_4 (rc rfl) (by decide) ?_
  refine j_icmp_ge hX (tgt := 19) dX10_ran_6 (by decide) (fun hc => ?_) (fun hc => ?_)
  · rw [if_pos hc] at h
    refine j_aload_n hX 0 dX10_ran_19 rfl rfl ?_
    refine j_dup hX dX10_ran_20 rfl ?_
    refine j_getI (k := 54) hX hE cbX10 ty56 pc56 (by decide) rfl wd1194 rfl dX10_ran_21 ?_
    refine j_iconst hX dX10_ran_24 (rc rfl) ?_
    refine j_iadd hX dX10_ran_25 ?_
    refine j_putI (k := 54) hX hE cbX10 ty56 pc56 (by decide) rfl wd1194 rfl (Or.inl rfl) rfl dX10_ran_26 ?_
    obtain ⟨S1, hx, h⟩ := ap_s h
    rw [← hx]
    clear hx
    cases h
    exact j_vret hX hR dX10_ran_29
  · rw [if_neg hc] at h
    refine j_aload_n hX 0 dX10_ran_9 rfl rfl ?_
    refine j_getS (k := 55) hX hfl cbX10 ty56 (by decide) rfl wd1195 rfl sb56_55 dX10_ran_10 ?_
    refine j_aload_n hX 0 dX10_ran_13 rfl rfl ?_
    refine j_getI (k := 54) hX hE cbX10 ty56 pc56 (by decide) rfl wd1194 rfl dX10_ran_14 ?_
    refine j_iload_n hX 1 dX10_ran_17 rfl rfl ?_
    obtain ⟨S2, hv, h⟩ := bs h
    refine j_iast hX hE ty92 pc92 hv dX10_ran_18 ?_
    refine j_aload_n hX 0 dX10_ran_19 rfl rfl ?_
    refine j_dup hX dX10_ran_20 rfl ?_
    refine j_getI (k := 54) hX hE cbX10 ty56 pc56 (by decide) rfl wd1194 rfl dX10_ran_21 ?_
    refine j_iconst hX dX10_ran_24 (rc rfl) ?_
    refine j_iadd hX dX10_ran_25 ?_
    refine j_putI (k := 54) hX hE cbX10 ty56 pc56 (by decide) rfl wd1194 rfl (Or.inl rfl) rfl dX10_ran_26 ?_
    obtain ⟨S3, hx, h⟩ := ap_s h
    rw [← hx]
    clear hx
    cases h
    exact j_vret hX hR dX10_ran_29
theorem s_X10_trace {g : G0} {B : Nat → Nat} {n : Nat} {E : Mem → Mem} {a1 : Int} {S : Mem} {r : Int} (hfl : g.2.2.2.2 = true) (hE : Lens E PM) (h : g_X10_trace a1 S = some r) : Cn g B n yX10_trace cX10_trace 2 (some .int) 1 [vR 56, vI (a1)] (E S) (QcI g B n r (E S)) := by
  refine Cn.of (by decide +kernel) (Nat.le_of_ble_eq_true rfl) (fun X hg hnl hX hR => ?_)
  subst hg
  have hX : Ctx X cX10_trace "TelegramFeelingsModel" 1 := hX
  unfold g_X10_trace at h
  show JW X B n 0 0 0 [(0, vR 56), (1, vI (a1))] [] (E S) (QM X (QcI (gX X) B n r (E S)))
  refine j_iload_n hX 1 dX10_trace_0 rfl rfl ?_
  refine j_if_lt hX (tgt := 27) dX10_trace_1 (by decide) (fun hc => ?_) (fun hc => ?_)
  · rw [if_pos hc] at h
    refine j_iconst hX dX10_trace_27 (rc rfl) ?_
    cases h
    exact j_iret hX hR dX10_trace_28
  · rw [if_neg hc] at h
    refine j_iload_n hX 1 dX10_trace_4 rfl rfl ?_
    refine j_aload_n hX 0 dX10_trace_5 rfl rfl ?_
    refine j_getI (k := 54) hX hE cbX10 ty56 pc56 (by decide) rfl wd1194 rfl dX10_trace_6 ?_
    refine j_icmp_ge hX (tgt := 27) dX10_trace_9 (by decide) (fun hc => ?_) (fun hc => ?_)
    · rw [if_pos hc] at h
      refine j_iconst hX dX10_trace_27 (rc rfl) ?_
      cases h
      exact j_iret hX hR dX10_trace_28
    · rw [if_neg hc] at h
      refine j_iload_n hX 1 dX10_trace_12 rfl rfl ?_
      refine j_bipush hX dX10_trace_13 (rc rfl) (by decide) ?_
      refine j_icmp_ge hX (tgt := 27) dX10_trace_15 (by decide) (fun hc => ?_) (fun hc => ?_)
      · rw [if_pos hc] at h
        refine j_iconst hX dX10_trace_27 (rc rfl) ?_
        cases h
        exact j_iret hX hR dX10_trace_28
      · rw [if_neg hc] at h
        refine j_aload_n hX 0 dX10_trace_18 rfl rfl ?_
        refine j_getS (k := 55) hX hfl cbX10 ty56 (by decide) rfl wd1195 rfl sb56_55 dX10_trace_19 ?_
        refine j_iload_n hX 1 dX10_trace_22 rfl rfl ?_
        obtain ⟨x1, hv, h⟩ := bs h
        refine j_iald hX hE ty92 pc92 hv dX10_trace_23 ?_
        refine j_goto hX (tgt := 28) dX10_trace_24 (by decide) ?_
        cases h
        exact j_iret hX hR dX10_trace_28
theorem s_X10_body {g : G0} {B : Nat → Nat} {n : Nat} {E : Mem → Mem} {a1 : Int} {S : Mem} {r : Int} {S' : Mem} (hfl : g.2.2.2.2 = true) (hE : Lens E PM) (h : g_X10_body a1 S = some (r, S')) : Cn g B n yX10_body cX10_body 2 (some .int) 2 [vR 56, vI (a1)] (E S) (QcI g B n r (E S')) := by
  refine Cn.of (by decide +kernel) (Nat.le_of_ble_eq_true rfl) (fun X hg hnl hX hR => ?_)
  subst hg
  have hX : Ctx X cX10_body "TelegramFeelingsModel" 2 := hX
  unfold g_X10_body at h
  show JW X B n 0 0 0 [(0, vR 56), (1, vI (a1))] [] (E S) (QM X (QcI (gX X) B n r (E S')))
  refine j_iload_n hX 1 dX10_body_0 rfl rfl ?_
  refine j_iconst hX dX10_body_1 (rc rfl) ?_
  refine j_bipush hX dX10_body_2 (rc rfl) (by decide) ?_
  refine j_callSI hX mwX10_in msX10_in wd1326 hyX10_in (by omega) (by decide) ⟨Nat.zero_le _, Nat.zero_le _⟩ dX10_body_4 (s_X10_in hfl rfl) npX10_in rfl (Nat.le_of_ble_eq_true rfl) ?_
  refine j_if_ne hX (tgt := 12) dX10_body_7 (by decide) (fun hc => ?_) (fun hc => ?_)
  · rw [if_neg hc] at h
    refine j_aload_n hX 0 dX10_body_12 rfl rfl ?_
    refine j_getI (k := 52) hX hE cbX10 ty56 pc56 (by decide) rfl wd1192 rfl dX10_body_13 ?_
    refine j_bipush hX dX10_body_16 (rc rfl) (by decide) ?_
    refine j_icmp_ne hX (tgt := 24) dX10_body_18 (by decide) (fun hc => ?_) (fun hc => ?_)
    · rw [if_neg hc] at h
      refine j_aload_n hX 0 dX10_body_24 rfl rfl ?_
      refine j_getS (k := 53) hX hfl cbX10 ty56 (by decide) rfl wd1193 rfl sb56_53 dX10_body_25 ?_
      refine j_aload_n hX 0 dX10_body_28 rfl rfl ?_
      refine j_getI (k := 52) hX hE cbX10 ty56 pc56 (by decide) rfl wd1192 rfl dX10_body_29 ?_
      refine j_iload_n hX 1 dX10_body_32 rfl rfl ?_
      obtain ⟨S1, hv, h⟩ := bs h
      refine j_iast hX hE ty91 pc91 hv dX10_body_33 ?_
      refine j_aload_n hX 0 dX10_body_34 rfl rfl ?_
      refine j_dup hX dX10_body_35 rfl ?_
      refine j_getI (k := 52) hX hE cbX10 ty56 pc56 (by decide) rfl wd1192 rfl dX10_body_36 ?_
      refine j_iconst hX dX10_body_39 (rc rfl) ?_
      refine j_iadd hX dX10_body_40 ?_
      refine j_putI (k := 52) hX hE cbX10 ty56 pc56 (by decide) rfl wd1192 rfl (Or.inl rfl) rfl dX10_body_41 ?_
      obtain ⟨S2, hx, h⟩ := ap_s h
      rw [← hx]
      clear hx
      refine j_aload_n hX 0 dX10_body_44 rfl rfl ?_
      refine j_getI (k := 52) hX hE cbX10 ty56 pc56 (by decide) rfl wd1192 rfl dX10_body_45 ?_
      refine j_iconst hX dX10_body_48 (rc rfl) ?_
      refine j_isub hX dX10_body_49 ?_
      cases h
      exact j_iret hX hR dX10_body_50
    · rw [if_pos hc] at h
      refine j_bipush hX dX10_body_21 (rc rfl) (by decide) ?_
      cases h
      exact j_iret hX hR dX10_body_23
  · rw [if_pos hc] at h
    refine j_iconst hX dX10_body_10 (rc rfl) ?_
    cases h
    exact j_iret hX hR dX10_body_11
theorem sj_X10_isUnder_34 {X : K0} {B : Nat → Nat} {n : Nat} {M : Mem} {r : Int} (hX : Ctx X cX10_isUnder "TelegramFeelingsModel" 1) (hR : CR X (some .boolean)) (hfl : (gX X).2.2.2.2 = true) (hnl : X.2.2.2.2.2.2.2.2.2.2.2.2.2.2 = 2)   {v0 : Int} {v1 : Int}  (h : g_X10_isUnder_J34 v0 v1 = r) : JW X B n 0 0 34 [(0, vI (v0)), (1, vI (v1))] [] (M) (QM X (QcI (gX X) B n r M)) := by
  unfold g_X10_isUnder_J34 at h
  refine j_iload_n hX 1 dX10_isUnder_34 rfl rfl ?_
  refine j_iconst hX dX10_isUnder_35 (rc rfl) ?_
  refine j_icmp_ne hX (tgt := 44) dX10_isUnder_36 (by decide) (fun hc => ?_) (fun hc => ?_)
  · rw [if_neg hc] at h
    refine j_iload_n hX 1 dX10_isUnder_44 rfl rfl ?_
    refine j_bipush hX dX10_isUnder_45 (rc rfl) (by decide) ?_
    refine j_icmp_ne hX (tgt := 60) dX10_isUnder_47 (by decide) (fun hc => ?_) (fun hc => ?_)
    · rw [if_neg hc] at h
      refine j_iconst hX dX10_isUnder_60 (rc rfl) ?_
      subst h
      exact j_zret hX hR (Or.inl rfl) dX10_isUnder_61
    · rw [if_pos hc] at h
      refine j_iload_n hX 0 dX10_isUnder_50 rfl rfl ?_
      refine j_bipush hX dX10_isUnder_51 (rc rfl) (by decide) ?_
      refine j_icmp_ne hX (tgt := 60) dX10_isUnder_53 (by decide) (fun hc => ?_) (fun hc => ?_)
      · rw [if_neg hc] at h
        refine j_iconst hX dX10_isUnder_60 (rc rfl) ?_
        subst h
        exact j_zret hX hR (Or.inl rfl) dX10_isUnder_61
      · rw [if_pos hc] at h
        refine j_iconst hX dX10_isUnder_56 (rc rfl) ?_
        refine j_goto hX (tgt := 61) dX10_isUnder_57 (by decide) ?_
        subst h
        exact j_zret hX hR (Or.inr rfl) dX10_isUnder_61
  · rw [if_pos hc] at h
    refine j_iload_n hX 0 dX10_isUnder_39 rfl rfl ?_
    refine j_iconst hX dX10_isUnder_40 (rc rfl) ?_
    refine j_icmp_eq hX (tgt := 56) dX10_isUnder_41 (by decide) (fun hc => ?_) (fun hc => ?_)
    · rw [if_pos hc] at h
      refine j_iconst hX dX10_isUnder_56 (rc rfl) ?_
      refine j_goto hX (tgt := 61) dX10_isUnder_57 (by decide) ?_
      subst h
      exact j_zret hX hR (Or.inr rfl) dX10_isUnder_61
    · rw [if_neg hc] at h
      refine j_iload_n hX 1 dX10_isUnder_44 rfl rfl ?_
      refine j_bipush hX dX10_isUnder_45 (rc rfl) (by decide) ?_
      refine j_icmp_ne hX (tgt := 60) dX10_isUnder_47 (by decide) (fun hc => ?_) (fun hc => ?_)
      · rw [if_neg hc] at h
        refine j_iconst hX dX10_isUnder_60 (rc rfl) ?_
        subst h
        exact j_zret hX hR (Or.inl rfl) dX10_isUnder_61
      · rw [if_pos hc] at h
        refine j_iload_n hX 0 dX10_isUnder_50 rfl rfl ?_
        refine j_bipush hX dX10_isUnder_51 (rc rfl) (by decide) ?_
        refine j_icmp_ne hX (tgt := 60) dX10_isUnder_53 (by decide) (fun hc => ?_) (fun hc => ?_)
        · rw [if_neg hc] at h
          refine j_iconst hX dX10_isUnder_60 (rc rfl) ?_
          subst h
          exact j_zret hX hR (Or.inl rfl) dX10_isUnder_61
        · rw [if_pos hc] at h
          refine j_iconst hX dX10_isUnder_56 (rc rfl) ?_
          refine j_goto hX (tgt := 61) dX10_isUnder_57 (by decide) ?_
          subst h
          exact j_zret hX hR (Or.inr rfl) dX10_isUnder_61
theorem sj_X10_isUnder_19 {X : K0} {B : Nat → Nat} {n : Nat} {M : Mem} {r : Int} (hX : Ctx X cX10_isUnder "TelegramFeelingsModel" 1) (hR : CR X (some .boolean)) (hfl : (gX X).2.2.2.2 = true) (hnl : X.2.2.2.2.2.2.2.2.2.2.2.2.2.2 = 2)   {v0 : Int} {v1 : Int}  (h : g_X10_isUnder_J19 v0 v1 = r) : JW X B n 0 0 19 [(0, vI (v0)), (1, vI (v1))] [] (M) (QM X (QcI (gX X) B n r M)) := by
  unfold g_X10_isUnder_J19 at h
  refine j_iload_n hX 1 dX10_isUnder_19 rfl rfl ?_
  refine j_iconst hX dX10_isUnder_20 (rc rfl) ?_
  refine j_icmp_ne hX (tgt := 34) dX10_isUnder_21 (by decide) (fun hc => ?_) (fun hc => ?_)
  · rw [if_neg hc] at h
    refine j_sub [0, 1] rfl ?_
    exact sj_X10_isUnder_34 hX hR hfl hnl  h
  · rw [if_pos hc] at h
    refine j_iload_n hX 0 dX10_isUnder_24 rfl rfl ?_
    refine j_iconst hX dX10_isUnder_25 (rc rfl) ?_
    refine j_icmp_eq hX (tgt := 56) dX10_isUnder_26 (by decide) (fun hc => ?_) (fun hc => ?_)
    · rw [if_pos hc] at h
      refine j_iconst hX dX10_isUnder_56 (rc rfl) ?_
      refine j_goto hX (tgt := 61) dX10_isUnder_57 (by decide) ?_
      subst h
      exact j_zret hX hR (Or.inr rfl) dX10_isUnder_61
    · rw [if_neg hc] at h
      refine j_iload_n hX 0 dX10_isUnder_29 rfl rfl ?_
      refine j_iconst hX dX10_isUnder_30 (rc rfl) ?_
      refine j_icmp_eq hX (tgt := 56) dX10_isUnder_31 (by decide) (fun hc => ?_) (fun hc => ?_)
      · rw [if_pos hc] at h
        refine j_iconst hX dX10_isUnder_56 (rc rfl) ?_
        refine j_goto hX (tgt := 61) dX10_isUnder_57 (by decide) ?_
        subst h
        exact j_zret hX hR (Or.inr rfl) dX10_isUnder_61
      · rw [if_neg hc] at h
        refine j_sub [0, 1] rfl ?_
        exact sj_X10_isUnder_34 hX hR hfl hnl  h
theorem s_X10_isUnder {g : G0} {B : Nat → Nat} {n : Nat} {M : Mem} {a1 : Int} {a2 : Int} {r : Int} (hfl : g.2.2.2.2 = true) (h : g_X10_isUnder a1 a2 = r) : Cn g B n yX10_isUnder cX10_isUnder 2 (some .boolean) 1 [vI (a1), vI (a2)] M (QcI g B n r M) := by
  refine Cn.of (by decide +kernel) (Nat.le_of_ble_eq_true rfl) (fun X hg hnl hX hR => ?_)
  subst hg
  have hX : Ctx X cX10_isUnder "TelegramFeelingsModel" 1 := hX
  unfold g_X10_isUnder at h
  show JW X B n 0 0 0 [(0, vI (a1)), (1, vI (a2))] [] (M) (QM X (QcI (gX X) B n r M))
  refine j_iload_n hX 1 dX10_isUnder_0 rfl rfl ?_
  refine j_if_eq hX (tgt := 56) dX10_isUnder_1 (by decide) (fun hc => ?_) (fun hc => ?_)
  · rw [if_pos hc] at h
    refine j_iconst hX dX10_isUnder_56 (rc rfl) ?_
    refine j_goto hX (tgt := 61) dX10_isUnder_57 (by decide) ?_
    subst h
    exact j_zret hX hR (Or.inr rfl) dX10_isUnder_61
  · rw [if_neg hc] at h
    refine j_iload_n hX 0 dX10_isUnder_4 rfl rfl ?_
    refine j_iload_n hX 1 dX10_isUnder_5 rfl rfl ?_
    refine j_icmp_eq hX (tgt := 56) dX10_isUnder_6 (by decide) (fun hc => ?_) (fun hc => ?_)
    · rw [if_pos hc] at h
      refine j_iconst hX dX10_isUnder_56 (rc rfl) ?_
      refine j_goto hX (tgt := 61) dX10_isUnder_57 (by decide) ?_
      subst h
      exact j_zret hX hR (Or.inr rfl) dX10_isUnder_61
    · rw [if_neg hc] at h
      refine j_iload_n hX 1 dX10_isUnder_9 rfl rfl ?_
      refine j_iconst hX dX10_isUnder_10 (rc rfl) ?_
      refine j_icmp_ne hX (tgt := 19) dX10_isUnder_11 (by decide) (fun hc => ?_) (fun hc => ?_)
      · rw [if_neg hc] at h
        refine j_sub [0, 1] rfl ?_
        exact sj_X10_isUnder_19 hX hR hfl hnl  h
      · rw [if_pos hc] at h
        refine j_iload_n hX 0 dX10_isUnder_14 rfl rfl ?_
        refine j_iconst hX dX10_isUnder_15 (rc rfl) ?_
        refine j_icmp_eq hX (tgt := 56) dX10_isUnder_16 (by decide) (fun hc => ?_) (fun hc => ?_)
        · rw [if_pos hc] at h
          refine j_iconst hX dX10_isUnder_56 (rc rfl) ?_
          refine j_goto hX (tgt := 61) dX10_isUnder_57 (by decide) ?_
          subst h
          exact j_zret hX hR (Or.inr rfl) dX10_isUnder_61
        · rw [if_neg hc] at h
          refine j_sub [0, 1] rfl ?_
          exact sj_X10_isUnder_19 hX hR hfl hnl  h
theorem s_X10_plainSays {g : G0} {B : Nat → Nat} {n : Nat} {E : Mem → Mem} {a1 : Int} {a2 : Int} {S : Mem} {r : Int} {S' : Mem} (hfl : g.2.2.2.2 = true) (hE : Lens E PM) (h : g_X10_plainSays a1 a2 S = some (r, S')) : Cn g B n yX10_plainSays cX10_plainSays 3 (some .int) 2 [vR 56, vI (a1), vI (a2)] (E S) (QcI g B n r (E S')) := by
  refine Cn.of (by decide +kernel) (Nat.le_of_ble_eq_true rfl) (fun X hg hnl hX hR => ?_)
  subst hg
  have hX : Ctx X cX10_plainSays "TelegramFeelingsModel" 2 := hX
  unfold g_X10_plainSays at h
  show JW X B n 0 0 0 [(0, vR 56), (1, vI (a1)), (2, vI (a2))] [] (E S) (QM X (QcI (gX X) B n r (E S')))
  refine j_aload_n hX 0 dX10_plainSays_0 rfl rfl ?_
  refine j_iconst hX dX10_plainSays_1 (rc rfl) ?_
  obtain ⟨S1, h1, h⟩ := bs h
  refine j_callVV hX mwX10_ran miX10_ran wd1680 cbX10 ty56 hyX10_ran (by omega) (by decide) ⟨Nat.zero_le _, Nat.zero_le _⟩ dX10_plainSays_2 (s_X10_ran hfl hE h1) npX10_ran rfl (Nat.le_of_ble_eq_true rfl) ?_
  refine j_iload_n hX 2 dX10_plainSays_5 rfl rfl ?_
  refine j_iload_n hX 1 dX10_plainSays_6 rfl rfl ?_
  refine j_iadd hX dX10_plainSays_7 ?_
  cases h
  exact j_iret hX hR dX10_plainSays_8
theorem s_X10_cowSays {g : G0} {B : Nat → Nat} {n : Nat} {E : Mem → Mem} {a1 : Int} {a2 : Int} {S : Mem} {r : Int} {S' : Mem} (hfl : g.2.2.2.2 = true) (hE : Lens E PM) (h : g_X10_cowSays a1 a2 S = some (r, S')) : Cn g B n yX10_cowSays cX10_cowSays 3 (some .int) 3 [vR 56, vI (a1), vI (a2)] (E S) (QcI g B n r (E S')) := by
  refine Cn.of (by decide +kernel) (Nat.le_of_ble_eq_true rfl) (fun X hg hnl hX hR => ?_)
  subst hg
  have hX : Ctx X cX10_cowSays "TelegramFeelingsModel" 3 := hX
  unfold g_X10_cowSays at h
  show JW X B n 0 0 0 [(0, vR 56), (1, vI (a1)), (2, vI (a2))] [] (E S) (QM X (QcI (gX X) B n r (E S')))
  refine j_aload_n hX 0 dX10_cowSays_0 rfl rfl ?_
  refine j_bipush hX dX10_cowSays_1 (rc rfl) (by decide) ?_
  obtain ⟨S1, h1, h⟩ := bs h
  refine j_callVV hX mwX10_ran miX10_ran wd1680 cbX10 ty56 hyX10_ran (by omega) (by decide) ⟨Nat.zero_le _, Nat.zero_le _⟩ dX10_cowSays_3 (s_X10_ran hfl hE h1) npX10_ran rfl (Nat.le_of_ble_eq_true rfl) ?_
  refine j_aload_n hX 0 dX10_cowSays_6 rfl rfl ?_
  refine j_iload_n hX 1 dX10_cowSays_7 rfl rfl ?_
  refine j_iload_n hX 2 dX10_cowSays_8 rfl rfl ?_
  obtain ⟨x3, S2, h1, h⟩ := bd2_s h
  refine j_callVI hX mwX10_plainSays miX10_plainSays wd1684 cbX10 ty56 hyX10_plainSays (by omega) (by decide) ⟨Nat.zero_le _, Nat.zero_le _⟩ dX10_cowSays_9 (s_X10_plainSays hfl hE h1) npX10_plainSays rfl (Nat.le_of_ble_eq_true rfl) ?_
  refine j_iconst hX dX10_cowSays_12 (rc rfl) ?_
  refine j_imul hX dX10_cowSays_13 ?_
  cases h
  exact j_iret hX hR dX10_cowSays_14
theorem s_X10_saying {g : G0} {B : Nat → Nat} {n : Nat} {E : Mem → Mem} {a1 : Int} {a2 : Int} {S : Mem} {r : Int} {S' : Mem} (hfl : g.2.2.2.2 = true) (hE : Lens E PM) (h : g_X10_saying a1 a2 S = some (r, S')) : Cn g B n yX10_saying cX10_saying 3 (some .int) 4 [vR 56, vI (a1), vI (a2)] (E S) (QcI g B n r (E S')) := by
  refine Cn.of (by decide +kernel) (Nat.le_of_ble_eq_true rfl) (fun X hg hnl hX hR => ?_)
  subst hg
  have hX : Ctx X cX10_saying "TelegramFeelingsModel" 4 := hX
  unfold g_X10_saying at h
  show JW X B n 0 0 0 [(0, vR 56), (1, vI (a1)), (2, vI (a2))] [] (E S) (QM X (QcI (gX X) B n r (E S')))
  refine j_aload_n hX 0 dX10_saying_0 rfl rfl ?_
  refine j_getS (k := 53) hX hfl cbX10 ty56 (by decide) rfl wd1193 rfl sb56_53 dX10_saying_1 ?_
  refine j_iload_n hX 1 dX10_saying_4 rfl rfl ?_
  obtain ⟨x1, hv, h⟩ := bs h
  refine j_iald hX hE ty91 pc91 hv dX10_saying_5 ?_
  refine j_iconst hX dX10_saying_6 (rc rfl) ?_
  refine j_callSI hX mwX10_isUnder msX10_isUnder wd1677 hyX10_isUnder (by omega) (by decide) ⟨Nat.zero_le _, Nat.zero_le _⟩ dX10_saying_7 (s_X10_isUnder hfl rfl) npX10_isUnder rfl (Nat.le_of_ble_eq_true rfl) ?_
  refine j_if_eq hX (tgt := 28) dX10_saying_10 (by decide) (fun hc => ?_) (fun hc => ?_)
  · rw [if_pos hc] at h
    refine j_aload_n hX 0 dX10_saying_28 rfl rfl ?_
    refine j_getS (k := 53) hX hfl cbX10 ty56 (by decide) rfl wd1193 rfl sb56_53 dX10_saying_29 ?_
    refine j_iload_n hX 1 dX10_saying_32 rfl rfl ?_
    obtain ⟨x2, hv, h⟩ := bs h
    refine j_iald hX hE ty91 pc91 hv dX10_saying_33 ?_
    refine j_bipush hX dX10_saying_34 (rc rfl) (by decide) ?_
    refine j_icmp_ne hX (tgt := 54) dX10_saying_36 (by decide) (fun hc => ?_) (fun hc => ?_)
    · rw [if_neg hc] at h
      refine j_aload_n hX 0 dX10_saying_54 rfl rfl ?_
      refine j_getS (k := 53) hX hfl cbX10 ty56 (by decide) rfl wd1193 rfl sb56_53 dX10_saying_55 ?_
      refine j_iload_n hX 1 dX10_saying_58 rfl rfl ?_
      obtain ⟨x3, hv, h⟩ := bs h
      refine j_iald hX hE ty91 pc91 hv dX10_saying_59 ?_
      refine j_bipush hX dX10_saying_60 (rc rfl) (by decide) ?_
      refine j_icmp_ne hX (tgt := 74) dX10_saying_62 (by decide) (fun hc => ?_) (fun hc => ?_)
      · rw [if_neg hc] at h
        refine j_aload_n hX 0 dX10_saying_74 rfl rfl ?_
        refine j_iload_n hX 1 dX10_saying_75 rfl rfl ?_
        refine j_iload_n hX 2 dX10_saying_76 rfl rfl ?_
        obtain ⟨x5, S4, h1, h⟩ := bd2_s h
        refine j_callVI hX mwX10_plainSays miX10_plainSays wd1684 cbX10 ty56 hyX10_plainSays (by omega) (by decide) ⟨Nat.zero_le _, Nat.zero_le _⟩ dX10_saying_77 (s_X10_plainSays hfl hE h1) npX10_plainSays rfl (Nat.le_of_ble_eq_true rfl) ?_
        cases h
        exact j_iret hX hR dX10_saying_80
      · rw [if_pos hc] at h
        refine j_aload_n hX 0 dX10_saying_65 rfl rfl ?_
        refine j_iload_n hX 1 dX10_saying_66 rfl rfl ?_
        refine j_iload_n hX 2 dX10_saying_67 rfl rfl ?_
        obtain ⟨x7, S6, h1, h⟩ := bd2_s h
        refine j_callVI hX mwX10_cowSays miX10_cowSays wd1688 cbX10 ty56 hyX10_cowSays (by omega) (by decide) ⟨Nat.zero_le _, Nat.zero_le _⟩ dX10_saying_68 (s_X10_cowSays hfl hE h1) npX10_cowSays rfl (Nat.le_of_ble_eq_true rfl) ?_
        refine j_goto hX (tgt := 80) dX10_saying_71 (by decide) ?_
        cases h
        exact j_iret hX hR dX10_saying_80
    · rw [if_pos hc] at h
      refine j_aload_n hX 0 dX10_saying_39 rfl rfl ?_
      refine j_bipush hX dX10_saying_40 (rc rfl) (by decide) ?_
      obtain ⟨S8, h1, h⟩ := bs h
      refine j_callVV hX mwX10_ran miX10_ran wd1680 cbX10 ty56 hyX10_ran (by omega) (by decide) ⟨Nat.zero_le _, Nat.zero_le _⟩ dX10_saying_42 (s_X10_ran hfl hE h1) npX10_ran rfl (Nat.le_of_ble_eq_true rfl) ?_
      refine j_aload_n hX 0 dX10_saying_45 rfl rfl ?_
      refine j_iload_n hX 1 dX10_saying_46 rfl rfl ?_
      refine j_iload_n hX 2 dX10_saying_47 rfl rfl ?_
      obtain ⟨x10, S9, h1, h⟩ := bd2_s h
      refine j_callVI hX mwX10_cowSays miX10_cowSays wd1688 cbX10 ty56 hyX10_cowSays (by omega) (by decide) ⟨Nat.zero_le _, Nat.zero_le _⟩ dX10_saying_48 (s_X10_cowSays hfl hE h1) npX10_cowSays rfl (Nat.le_of_ble_eq_true rfl) ?_
      refine j_iconst hX dX10_saying_51 (rc rfl) ?_
      refine j_isub hX dX10_saying_52 ?_
      cases h
      exact j_iret hX hR dX10_saying_53
  · rw [if_neg hc] at h
    refine j_aload_n hX 0 dX10_saying_13 rfl rfl ?_
    refine j_bipush hX dX10_saying_14 (rc rfl) (by decide) ?_
    obtain ⟨S11, h1, h⟩ := bs h
    refine j_callVV hX mwX10_ran miX10_ran wd1680 cbX10 ty56 hyX10_ran (by omega) (by decide) ⟨Nat.zero_le _, Nat.zero_le _⟩ dX10_saying_16 (s_X10_ran hfl hE h1) npX10_ran rfl (Nat.le_of_ble_eq_true rfl) ?_
    refine j_aload_n hX 0 dX10_saying_19 rfl rfl ?_
    refine j_iload_n hX 1 dX10_saying_20 rfl rfl ?_
    refine j_iload_n hX 2 dX10_saying_21 rfl rfl ?_
    obtain ⟨x13, S12, h1, h⟩ := bd2_s h
    refine j_callVI hX mwX10_plainSays miX10_plainSays wd1684 cbX10 ty56 hyX10_plainSays (by omega) (by decide) ⟨Nat.zero_le _, Nat.zero_le _⟩ dX10_saying_22 (s_X10_plainSays hfl hE h1) npX10_plainSays rfl (Nat.le_of_ble_eq_true rfl) ?_
    refine j_iconst hX dX10_saying_25 (rc rfl) ?_
    refine j_iadd hX dX10_saying_26 ?_
    cases h
    exact j_iret hX hR dX10_saying_27
theorem s_X10_plainCosts {g : G0} {B : Nat → Nat} {n : Nat} {E : Mem → Mem} {a1 : Int} {a2 : Int} {S : Mem} {r : Int} {S' : Mem} (hfl : g.2.2.2.2 = true) (hE : Lens E PM) (h : g_X10_plainCosts a1 a2 S = some (r, S')) : Cn g B n yX10_plainCosts cX10_plainCosts 3 (some .int) 5 [vR 56, vI (a1), vI (a2)] (E S) (QcI g B n r (E S')) := by
  refine Cn.of (by decide +kernel) (Nat.le_of_ble_eq_true rfl) (fun X hg hnl hX hR => ?_)
  subst hg
  have hX : Ctx X cX10_plainCosts "TelegramFeelingsModel" 5 := hX
  unfold g_X10_plainCosts at h
  show JW X B n 0 0 0 [(0, vR 56), (1, vI (a1)), (2, vI (a2))] [] (E S) (QM X (QcI (gX X) B n r (E S')))
  refine j_aload_n hX 0 dX10_plainCosts_0 rfl rfl ?_
  refine j_bipush hX dX10_plainCosts_1 (rc rfl) (by decide) ?_
  obtain ⟨S1, h1, h⟩ := bs h
  refine j_callVV hX mwX10_ran miX10_ran wd1680 cbX10 ty56 hyX10_ran (by omega) (by decide) ⟨Nat.zero_le _, Nat.zero_le _⟩ dX10_plainCosts_3 (s_X10_ran hfl hE h1) npX10_ran rfl (Nat.le_of_ble_eq_true rfl) ?_
  refine j_aload_n hX 0 dX10_plainCosts_6 rfl rfl ?_
  refine j_iload_n hX 1 dX10_plainCosts_7 rfl rfl ?_
  refine j_iload_n hX 2 dX10_plainCosts_8 rfl rfl ?_
  obtain ⟨x3, S2, h1, h⟩ := bd2_s h
  refine j_callVI hX mwX10_saying miX10_saying wd1673 cbX10 ty56 hyX10_saying (by omega) (by decide) ⟨Nat.zero_le _, Nat.zero_le _⟩ dX10_plainCosts_9 (s_X10_saying hfl hE h1) npX10_saying rfl (Nat.le_of_ble_eq_true rfl) ?_
  refine j_iconst hX dX10_plainCosts_12 (rc rfl) ?_
  refine j_imul hX dX10_plainCosts_13 ?_
  cases h
  exact j_iret hX hR dX10_plainCosts_14
theorem s_X10_clerkCosts {g : G0} {B : Nat → Nat} {n : Nat} {E : Mem → Mem} {a1 : Int} {a2 : Int} {S : Mem} {r : Int} {S' : Mem} (hfl : g.2.2.2.2 = true) (hE : Lens E PM) (h : g_X10_clerkCosts a1 a2 S = some (r, S')) : Cn g B n yX10_clerkCosts cX10_clerkCosts 3 (some .int) 6 [vR 56, vI (a1), vI (a2)] (E S) (QcI g B n r (E S')) := by
  refine Cn.of (by decide +kernel) (Nat.le_of_ble_eq_true rfl) (fun X hg hnl hX hR => ?_)
  subst hg
  have hX : Ctx X cX10_clerkCosts "TelegramFeelingsModel" 6 := hX
  unfold g_X10_clerkCosts at h
  show JW X B n 0 0 0 [(0, vR 56), (1, vI (a1)), (2, vI (a2))] [] (E S) (QM X (QcI (gX X) B n r (E S')))
  refine j_aload_n hX 0 dX10_clerkCosts_0 rfl rfl ?_
  refine j_bipush hX dX10_clerkCosts_1 (rc rfl) (by decide) ?_
  obtain ⟨S1, h1, h⟩ := bs h
  refine j_callVV hX mwX10_ran miX10_ran wd1680 cbX10 ty56 hyX10_ran (by omega) (by decide) ⟨Nat.zero_le _, Nat.zero_le _⟩ dX10_clerkCosts_3 (s_X10_ran hfl hE h1) npX10_ran rfl (Nat.le_of_ble_eq_true rfl) ?_
  refine j_aload_n hX 0 dX10_clerkCosts_6 rfl rfl ?_
  refine j_iload_n hX 1 dX10_clerkCosts_7 rfl rfl ?_
  refine j_iload_n hX 2 dX10_clerkCosts_8 rfl rfl ?_
  obtain ⟨x3, S2, h1, h⟩ := bd2_s h
  refine j_callVI hX mwX10_plainCosts miX10_plainCosts wd1700 cbX10 ty56 hyX10_plainCosts (by omega) (by decide) ⟨Nat.zero_le _, Nat.zero_le _⟩ dX10_clerkCosts_9 (s_X10_plainCosts hfl hE h1) npX10_plainCosts rfl (Nat.le_of_ble_eq_true rfl) ?_
  refine j_ineg hX dX10_clerkCosts_12 ?_
  cases h
  exact j_iret hX hR dX10_clerkCosts_13
theorem s_X10_plainErrs {g : G0} {B : Nat → Nat} {n : Nat} {E : Mem → Mem} {a1 : Int} {a2 : Int} {S : Mem} {r : Int} {S' : Mem} (hfl : g.2.2.2.2 = true) (hE : Lens E PM) (h : g_X10_plainErrs a1 a2 S = some (r, S')) : Cn g B n yX10_plainErrs cX10_plainErrs 3 (some .int) 2 [vR 56, vI (a1), vI (a2)] (E S) (QcI g B n r (E S')) := by
  refine Cn.of (by decide +kernel) (Nat.le_of_ble_eq_true rfl) (fun X hg hnl hX hR => ?_)
  subst hg
  have hX : Ctx X cX10_plainErrs "TelegramFeelingsModel" 2 := hX
  unfold g_X10_plainErrs at h
  show JW X B n 0 0 0 [(0, vR 56), (1, vI (a1)), (2, vI (a2))] [] (E S) (QM X (QcI (gX X) B n r (E S')))
  refine j_aload_n hX 0 dX10_plainErrs_0 rfl rfl ?_
  refine j_bipush hX dX10_plainErrs_1 (rc rfl) (by decide) ?_
  obtain ⟨S1, h1, h⟩ := bs h
  refine j_callVV hX mwX10_ran miX10_ran wd1680 cbX10 ty56 hyX10_ran (by omega) (by decide) ⟨Nat.zero_le _, Nat.zero_le _⟩ dX10_plainErrs_3 (s_X10_ran hfl hE h1) npX10_ran rfl (Nat.le_of_ble_eq_true rfl) ?_
  refine j_iload_n hX 2 dX10_plainErrs_6 rfl rfl ?_
  refine j_iload_n hX 1 dX10_plainErrs_7 rfl rfl ?_
  refine j_ixor hX dX10_plainErrs_8 ?_
  cases h
  exact j_iret hX hR dX10_plainErrs_9
theorem s_X10_stopErrs {g : G0} {B : Nat → Nat} {n : Nat} {E : Mem → Mem} {a1 : Int} {a2 : Int} {S : Mem} {r : Int} {S' : Mem} (hfl : g.2.2.2.2 = true) (hE : Lens E PM) (h : g_X10_stopErrs a1 a2 S = some (r, S')) : Cn g B n yX10_stopErrs cX10_stopErrs 3 (some .int) 3 [vR 56, vI (a1), vI (a2)] (E S) (QcI g B n r (E S')) := by
  refine Cn.of (by decide +kernel) (Nat.le_of_ble_eq_true rfl) (fun X hg hnl hX hR => ?_)
  subst hg
  have hX : Ctx X cX10_stopErrs "TelegramFeelingsModel" 3 := hX
  unfold g_X10_stopErrs at h
  show JW X B n 0 0 0 [(0, vR 56), (1, vI (a1)), (2, vI (a2))] [] (E S) (QM X (QcI (gX X) B n r (E S')))
  refine j_aload_n hX 0 dX10_stopErrs_0 rfl rfl ?_
  refine j_bipush hX dX10_stopErrs_1 (rc rfl) (by decide) ?_
  obtain ⟨S1, h1, h⟩ := bs h
  refine j_callVV hX mwX10_ran miX10_ran wd1680 cbX10 ty56 hyX10_ran (by omega) (by decide) ⟨Nat.zero_le _, Nat.zero_le _⟩ dX10_stopErrs_3 (s_X10_ran hfl hE h1) npX10_ran rfl (Nat.le_of_ble_eq_true rfl) ?_
  refine j_aload_n hX 0 dX10_stopErrs_6 rfl rfl ?_
  refine j_iload_n hX 1 dX10_stopErrs_7 rfl rfl ?_
  refine j_iload_n hX 2 dX10_stopErrs_8 rfl rfl ?_
  obtain ⟨x3, S2, h1, h⟩ := bd2_s h
  refine j_callVI hX mwX10_plainErrs miX10_plainErrs wd1712 cbX10 ty56 hyX10_plainErrs (by omega) (by decide) ⟨Nat.zero_le _, Nat.zero_le _⟩ dX10_stopErrs_9 (s_X10_plainErrs hfl hE h1) npX10_plainErrs rfl (Nat.le_of_ble_eq_true rfl) ?_
  refine j_iconst hX dX10_stopErrs_12 (rc rfl) ?_
  refine j_imul hX dX10_stopErrs_13 ?_
  cases h
  exact j_iret hX hR dX10_stopErrs_14
theorem s_X10_erring {g : G0} {B : Nat → Nat} {n : Nat} {E : Mem → Mem} {a1 : Int} {a2 : Int} {S : Mem} {r : Int} {S' : Mem} (hfl : g.2.2.2.2 = true) (hE : Lens E PM) (h : g_X10_erring a1 a2 S = some (r, S')) : Cn g B n yX10_erring cX10_erring 4 (some .int) 5 [vR 56, vI (a1), vI (a2)] (E S) (QcI g B n r (E S')) := by
  refine Cn.of (by decide +kernel) (Nat.le_of_ble_eq_true rfl) (fun X hg hnl hX hR => ?_)
  subst hg
  have hX : Ctx X cX10_erring "TelegramFeelingsModel" 5 := hX
  unfold g_X10_erring at h
  show JW X B n 0 0 0 [(0, vR 56), (1, vI (a1)), (2, vI (a2))] [] (E S) (QM X (QcI (gX X) B n r (E S')))
  refine j_aload_n hX 0 dX10_erring_0 rfl rfl ?_
  refine j_getS (k := 53) hX hfl cbX10 ty56 (by decide) rfl wd1193 rfl sb56_53 dX10_erring_1 ?_
  refine j_iload_n hX 1 dX10_erring_4 rfl rfl ?_
  obtain ⟨x1, hv, h⟩ := bs h
  refine j_iald hX hE ty91 pc91 hv dX10_erring_5 ?_
  refine j_iconst hX dX10_erring_6 (rc rfl) ?_
  refine j_icmp_ne hX (tgt := 32) dX10_erring_7 (by decide) (fun hc => ?_) (fun hc => ?_)
  · rw [if_neg hc] at h
    refine j_aload_n hX 0 dX10_erring_32 rfl rfl ?_
    refine j_getS (k := 53) hX hfl cbX10 ty56 (by decide) rfl wd1193 rfl sb56_53 dX10_erring_33 ?_
    refine j_iload_n hX 1 dX10_erring_36 rfl rfl ?_
    obtain ⟨x2, hv, h⟩ := bs h
    refine j_iald hX hE ty91 pc91 hv dX10_erring_37 ?_
    refine j_iconst hX dX10_erring_38 (rc rfl) ?_
    refine j_icmp_ne hX (tgt := 51) dX10_erring_39 (by decide) (fun hc => ?_) (fun hc => ?_)
    · rw [if_neg hc] at h
      refine j_aload_n hX 0 dX10_erring_51 rfl rfl ?_
      refine j_iload_n hX 1 dX10_erring_52 rfl rfl ?_
      refine j_iload_n hX 2 dX10_erring_53 rfl rfl ?_
      obtain ⟨x4, S3, h1, h⟩ := bd2_s h
      refine j_callVI hX mwX10_plainErrs miX10_plainErrs wd1712 cbX10 ty56 hyX10_plainErrs (by omega) (by decide) ⟨Nat.zero_le _, Nat.zero_le _⟩ dX10_erring_54 (s_X10_plainErrs hfl hE h1) npX10_plainErrs rfl (Nat.le_of_ble_eq_true rfl) ?_
      cases h
      exact j_iret hX hR dX10_erring_57
    · rw [if_pos hc] at h
      refine j_aload_n hX 0 dX10_erring_42 rfl rfl ?_
      refine j_iload_n hX 1 dX10_erring_43 rfl rfl ?_
      refine j_iload_n hX 2 dX10_erring_44 rfl rfl ?_
      obtain ⟨x6, S5, h1, h⟩ := bd2_s h
      refine j_callVI hX mwX10_stopErrs miX10_stopErrs wd1708 cbX10 ty56 hyX10_stopErrs (by omega) (by decide) ⟨Nat.zero_le _, Nat.zero_le _⟩ dX10_erring_45 (s_X10_stopErrs hfl hE h1) npX10_stopErrs rfl (Nat.le_of_ble_eq_true rfl) ?_
      refine j_goto hX (tgt := 57) dX10_erring_48 (by decide) ?_
      cases h
      exact j_iret hX hR dX10_erring_57
  · rw [if_pos hc] at h
    refine j_aload_n hX 0 dX10_erring_10 rfl rfl ?_
    refine j_bipush hX dX10_erring_11 (rc rfl) (by decide) ?_
    obtain ⟨S7, h1, h⟩ := bs h
    refine j_callVV hX mwX10_ran miX10_ran wd1680 cbX10 ty56 hyX10_ran (by omega) (by decide) ⟨Nat.zero_le _, Nat.zero_le _⟩ dX10_erring_13 (s_X10_ran hfl hE h1) npX10_ran rfl (Nat.le_of_ble_eq_true rfl) ?_
    refine j_aload_n hX 0 dX10_erring_16 rfl rfl ?_
    refine j_iload_n hX 1 dX10_erring_17 rfl rfl ?_
    refine j_iload_n hX 2 dX10_erring_18 rfl rfl ?_
    obtain ⟨x9, S8, h1, h⟩ := bd2_s h
    refine j_callVI hX mwX10_stopErrs miX10_stopErrs wd1708 cbX10 ty56 hyX10_stopErrs (by omega) (by decide) ⟨Nat.zero_le _, Nat.zero_le _⟩ dX10_erring_19 (s_X10_stopErrs hfl hE h1) npX10_stopErrs rfl (Nat.le_of_ble_eq_true rfl) ?_
    refine j_istore_n (L' := [(3, vI (x9)), (0, vR 56), (1, vI (a1)), (2, vI (a2))]) hX dX10_erring_22 rfl hnl (by decide) rfl ?_
    refine j_iload_n hX 0 dX10_erring_23 rfl rfl ?_
    refine j_aload_n hX 1 dX10_erring_24 rfl rfl ?_
    refine j_iload_n hX 2 dX10_erring_25 rfl rfl ?_
    refine j_iconst hX dX10_erring_26 (rc rfl) ?_
    obtain ⟨x11, S10, h1, h⟩ := bd2_s h
    refine j_callVI hX mwX10_saying miX10_saying wd1673 cbX10 ty56 hyX10_saying (by omega) (by decide) ⟨Nat.zero_le _, Nat.zero_le _⟩ dX10_erring_27 (s_X10_saying hfl hE h1) npX10_saying rfl (Nat.le_of_ble_eq_true rfl) ?_
    refine j_isub hX dX10_erring_30 ?_
    cases h
    exact j_iret hX hR dX10_erring_31
theorem s_X10_costing {g : G0} {B : Nat → Nat} {n : Nat} {E : Mem → Mem} {a1 : Int} {a2 : Int} {S : Mem} {r : Int} {S' : Mem} (hfl : g.2.2.2.2 = true) (hE : Lens E PM) (h : g_X10_costing a1 a2 S = some (r, S')) : Cn g B n yX10_costing cX10_costing 4 (some .int) 7 [vR 56, vI (a1), vI (a2)] (E S) (QcI g B n r (E S')) := by
  refine Cn.of (by decide +kernel) (Nat.le_of_ble_eq_true rfl) (fun X hg hnl hX hR => ?_)
  subst hg
  have hX : Ctx X cX10_costing "TelegramFeelingsModel" 7 := hX
  unfold g_X10_costing at h
  show JW X B n 0 0 0 [(0, vR 56), (1, vI (a1)), (2, vI (a2))] [] (E S) (QM X (QcI (gX X) B n r (E S')))
  refine j_aload_n hX 0 dX10_costing_0 rfl rfl ?_
  refine j_getS (k := 53) hX hfl cbX10 ty56 (by decide) rfl wd1193 rfl sb56_53 dX10_costing_1 ?_
  refine j_iload_n hX 1 dX10_costing_4 rfl rfl ?_
  obtain ⟨x1, hv, h⟩ := bs h
  refine j_iald hX hE ty91 pc91 hv dX10_costing_5 ?_
  refine j_iconst hX dX10_costing_6 (rc rfl) ?_
  refine j_callSI hX mwX10_isUnder msX10_isUnder wd1677 hyX10_isUnder (by omega) (by decide) ⟨Nat.zero_le _, Nat.zero_le _⟩ dX10_costing_7 (s_X10_isUnder hfl rfl) npX10_isUnder rfl (Nat.le_of_ble_eq_true rfl) ?_
  refine j_if_eq hX (tgt := 28) dX10_costing_10 (by decide) (fun hc => ?_) (fun hc => ?_)
  · rw [if_pos hc] at h
    refine j_aload_n hX 0 dX10_costing_28 rfl rfl ?_
    refine j_getS (k := 53) hX hfl cbX10 ty56 (by decide) rfl wd1193 rfl sb56_53 dX10_costing_29 ?_
    refine j_iload_n hX 1 dX10_costing_32 rfl rfl ?_
    obtain ⟨x2, hv, h⟩ := bs h
    refine j_iald hX hE ty91 pc91 hv dX10_costing_33 ?_
    refine j_bipush hX dX10_costing_34 (rc rfl) (by decide) ?_
    refine j_icmp_ne hX (tgt := 61) dX10_costing_36 (by decide) (fun hc => ?_) (fun hc => ?_)
    · rw [if_neg hc] at h
      refine j_aload_n hX 0 dX10_costing_61 rfl rfl ?_
      refine j_getS (k := 53) hX hfl cbX10 ty56 (by decide) rfl wd1193 rfl sb56_53 dX10_costing_62 ?_
      refine j_iload_n hX 1 dX10_costing_65 rfl rfl ?_
      obtain ⟨x3, hv, h⟩ := bs h
      refine j_iald hX hE ty91 pc91 hv dX10_costing_66 ?_
      refine j_iconst hX dX10_costing_67 (rc rfl) ?_
      refine j_icmp_ne hX (tgt := 80) dX10_costing_68 (by decide) (fun hc => ?_) (fun hc => ?_)
      · rw [if_neg hc] at h
        refine j_aload_n hX 0 dX10_costing_80 rfl rfl ?_
        refine j_iload_n hX 1 dX10_costing_81 rfl rfl ?_
        refine j_iload_n hX 2 dX10_costing_82 rfl rfl ?_
        obtain ⟨x5, S4, h1, h⟩ := bd2_s h
        refine j_callVI hX mwX10_plainCosts miX10_plainCosts wd1700 cbX10 ty56 hyX10_plainCosts (by omega) (by decide) ⟨Nat.zero_le _, Nat.zero_le _⟩ dX10_costing_83 (s_X10_plainCosts hfl hE h1) npX10_plainCosts rfl (Nat.le_of_ble_eq_true rfl) ?_
        cases h
        exact j_iret hX hR dX10_costing_86
      · rw [if_pos hc] at h
        refine j_aload_n hX 0 dX10_costing_71 rfl rfl ?_
        refine j_iload_n hX 1 dX10_costing_72 rfl rfl ?_
        refine j_iload_n hX 2 dX10_costing_73 rfl rfl ?_
        obtain ⟨x7, S6, h1, h⟩ := bd2_s h
        refine j_callVI hX mwX10_clerkCosts miX10_clerkCosts wd1696 cbX10 ty56 hyX10_clerkCosts (by omega) (by decide) ⟨Nat.zero_le _, Nat.zero_le _⟩ dX10_costing_74 (s_X10_clerkCosts hfl hE h1) npX10_clerkCosts rfl (Nat.le_of_ble_eq_true rfl) ?_
        refine j_goto hX (tgt := 86) dX10_costing_77 (by decide) ?_
        cases h
        exact j_iret hX hR dX10_costing_86
    · rw [if_pos hc] at h
      refine j_aload_n hX 0 dX10_costing_39 rfl rfl ?_
      refine j_bipush hX dX10_costing_40 (rc rfl) (by decide) ?_
      obtain ⟨S8, h1, h⟩ := bs h
      refine j_callVV hX mwX10_ran miX10_ran wd1680 cbX10 ty56 hyX10_ran (by omega) (by decide) ⟨Nat.zero_le _, Nat.zero_le _⟩ dX10_costing_42 (s_X10_ran hfl hE h1) npX10_ran rfl (Nat.le_of_ble_eq_true rfl) ?_
      refine j_aload_n hX 0 dX10_costing_45 rfl rfl ?_
      refine j_iload_n hX 1 dX10_costing_46 rfl rfl ?_
      refine j_iload_n hX 2 dX10_costing_47 rfl rfl ?_
      obtain ⟨x10, S9, h1, h⟩ := bd2_s h
      refine j_callVI hX mwX10_plainCosts miX10_plainCosts wd1700 cbX10 ty56 hyX10_plainCosts (by omega) (by decide) ⟨Nat.zero_le _, Nat.zero_le _⟩ dX10_costing_48 (s_X10_plainCosts hfl hE h1) npX10_plainCosts rfl (Nat.le_of_ble_eq_true rfl) ?_
      refine j_istore_n (L' := [(3, vI (x10)), (0, vR 56), (1, vI (a1)), (2, vI (a2))]) hX dX10_costing_51 rfl hnl (by decide) rfl ?_
      refine j_iload_n hX 0 dX10_costing_52 rfl rfl ?_
      refine j_aload_n hX 1 dX10_costing_53 rfl rfl ?_
      refine j_iload_n hX 2 dX10_costing_54 rfl rfl ?_
      refine j_iconst hX dX10_costing_55 (rc rfl) ?_
      obtain ⟨x12, S11, h1, h⟩ := bd2_s h
      refine j_callVI hX mwX10_erring miX10_erring wd1704 cbX10 ty56 hyX10_erring (by omega) (by decide) ⟨Nat.zero_le _, Nat.zero_le _⟩ dX10_costing_56 (s_X10_erring hfl hE h1) npX10_erring rfl (Nat.le_of_ble_eq_true rfl) ?_
      refine j_iadd hX dX10_costing_59 ?_
      cases h
      exact j_iret hX hR dX10_costing_60
  · rw [if_neg hc] at h
    refine j_aload_n hX 0 dX10_costing_13 rfl rfl ?_
    refine j_bipush hX dX10_costing_14 (rc rfl) (by decide) ?_
    obtain ⟨S13, h1, h⟩ := bs h
    refine j_callVV hX mwX10_ran miX10_ran wd1680 cbX10 ty56 hyX10_ran (by omega) (by decide) ⟨Nat.zero_le _, Nat.zero_le _⟩ dX10_costing_16 (s_X10_ran hfl hE h1) npX10_ran rfl (Nat.le_of_ble_eq_true rfl) ?_
    refine j_aload_n hX 0 dX10_costing_19 rfl rfl ?_
    refine j_iload_n hX 1 dX10_costing_20 rfl rfl ?_
    refine j_iload_n hX 2 dX10_costing_21 rfl rfl ?_
    refine j_iconst hX dX10_costing_22 (rc rfl) ?_
    refine j_iadd hX dX10_costing_23 ?_
    obtain ⟨x15, S14, h1, h⟩ := bd2_s h
    refine j_callVI hX mwX10_clerkCosts miX10_clerkCosts wd1696 cbX10 ty56 hyX10_clerkCosts (by omega) (by decide) ⟨Nat.zero_le _, Nat.zero_le _⟩ dX10_costing_24 (s_X10_clerkCosts hfl hE h1) npX10_clerkCosts rfl (Nat.le_of_ble_eq_true rfl) ?_
    cases h
    exact j_iret hX hR dX10_costing_27
theorem s_X10_plainTells {g : G0} {B : Nat → Nat} {n : Nat} {E : Mem → Mem} {a1 : Int} {a2 : Int} {S : Mem} {r : Int} {S' : Mem} (hfl : g.2.2.2.2 = true) (hE : Lens E PM) (h : g_X10_plainTells a1 a2 S = some (r, S')) : Cn g B n yX10_plainTells cX10_plainTells 4 (some .int) 8 [vR 56, vI (a1), vI (a2)] (E S) (QcI g B n r (E S')) := by
  refine Cn.of (by decide +kernel) (Nat.le_of_ble_eq_true rfl) (fun X hg hnl hX hR => ?_)
  subst hg
  have hX : Ctx X cX10_plainTells "TelegramFeelingsModel" 8 := hX
  unfold g_X10_plainTells at h
  show JW X B n 0 0 0 [(0, vR 56), (1, vI (a1)), (2, vI (a2))] [] (E S) (QM X (QcI (gX X) B n r (E S')))
  refine j_aload_n hX 0 dX10_plainTells_0 rfl rfl ?_
  refine j_iconst hX dX10_plainTells_1 (rc rfl) ?_
  obtain ⟨S1, h1, h⟩ := bs h
  refine j_callVV hX mwX10_ran miX10_ran wd1680 cbX10 ty56 hyX10_ran (by omega) (by decide) ⟨Nat.zero_le _, Nat.zero_le _⟩ dX10_plainTells_2 (s_X10_ran hfl hE h1) npX10_ran rfl (Nat.le_of_ble_eq_true rfl) ?_
  refine j_aload_n hX 0 dX10_plainTells_5 rfl rfl ?_
  refine j_iload_n hX 1 dX10_plainTells_6 rfl rfl ?_
  refine j_iload_n hX 2 dX10_plainTells_7 rfl rfl ?_
  obtain ⟨x3, S2, h1, h⟩ := bd2_s h
  refine j_callVI hX mwX10_costing miX10_costing wd1692 cbX10 ty56 hyX10_costing (by omega) (by decide) ⟨Nat.zero_le _, Nat.zero_le _⟩ dX10_plainTells_8 (s_X10_costing hfl hE h1) npX10_costing rfl (Nat.le_of_ble_eq_true rfl) ?_
  refine j_istore_n (L' := [(3, vI (x3)), (0, vR 56), (1, vI (a1)), (2, vI (a2))]) hX dX10_plainTells_11 rfl hnl (by decide) rfl ?_
  refine j_iload_n hX 0 dX10_plainTells_12 rfl rfl ?_
  refine j_aload_n hX 1 dX10_plainTells_13 rfl rfl ?_
  refine j_iload_n hX 2 dX10_plainTells_14 rfl rfl ?_
  refine j_iconst hX dX10_plainTells_15 (rc rfl) ?_
  obtain ⟨x5, S4, h1, h⟩ := bd2_s h
  refine j_callVI hX mwX10_erring miX10_erring wd1704 cbX10 ty56 hyX10_erring (by omega) (by decide) ⟨Nat.zero_le _, Nat.zero_le _⟩ dX10_plainTells_16 (s_X10_erring hfl hE h1) npX10_erring rfl (Nat.le_of_ble_eq_true rfl) ?_
  refine j_isub hX dX10_plainTells_19 ?_
  cases h
  exact j_iret hX hR dX10_plainTells_20
theorem s_X10_telling {g : G0} {B : Nat → Nat} {n : Nat} {E : Mem → Mem} {a1 : Int} {a2 : Int} {S : Mem} {r : Int} {S' : Mem} (hfl : g.2.2.2.2 = true) (hE : Lens E PM) (h : g_X10_telling a1 a2 S = some (r, S')) : Cn g B n yX10_telling cX10_telling 3 (some .int) 9 [vR 56, vI (a1), vI (a2)] (E S) (QcI g B n r (E S')) := by
  refine Cn.of (by decide +kernel) (Nat.le_of_ble_eq_true rfl) (fun X hg hnl hX hR => ?_)
  subst hg
  have hX : Ctx X cX10_telling "TelegramFeelingsModel" 9 := hX
  unfold g_X10_telling at h
  show JW X B n 0 0 0 [(0, vR 56), (1, vI (a1)), (2, vI (a2))] [] (E S) (QM X (QcI (gX X) B n r (E S')))
  refine j_aload_n hX 0 dX10_telling_0 rfl rfl ?_
  refine j_getS (k := 53) hX hfl cbX10 ty56 (by decide) rfl wd1193 rfl sb56_53 dX10_telling_1 ?_
  refine j_iload_n hX 1 dX10_telling_4 rfl rfl ?_
  obtain ⟨x1, hv, h⟩ := bs h
  refine j_iald hX hE ty91 pc91 hv dX10_telling_5 ?_
  refine j_iconst hX dX10_telling_6 (rc rfl) ?_
  refine j_icmp_ne hX (tgt := 25) dX10_telling_7 (by decide) (fun hc => ?_) (fun hc => ?_)
  · rw [if_neg hc] at h
    refine j_aload_n hX 0 dX10_telling_25 rfl rfl ?_
    refine j_getS (k := 53) hX hfl cbX10 ty56 (by decide) rfl wd1193 rfl sb56_53 dX10_telling_26 ?_
    refine j_iload_n hX 1 dX10_telling_29 rfl rfl ?_
    obtain ⟨x2, hv, h⟩ := bs h
    refine j_iald hX hE ty91 pc91 hv dX10_telling_30 ?_
    refine j_iconst hX dX10_telling_31 (rc rfl) ?_
    refine j_icmp_ne hX (tgt := 50) dX10_telling_32 (by decide) (fun hc => ?_) (fun hc => ?_)
    · rw [if_neg hc] at h
      refine j_aload_n hX 0 dX10_telling_50 rfl rfl ?_
      refine j_iload_n hX 1 dX10_telling_51 rfl rfl ?_
      refine j_iload_n hX 2 dX10_telling_52 rfl rfl ?_
      obtain ⟨x4, S3, h1, h⟩ := bd2_s h
      refine j_callVI hX mwX10_plainTells miX10_plainTells wd1720 cbX10 ty56 hyX10_plainTells (by omega) (by decide) ⟨Nat.zero_le _, Nat.zero_le _⟩ dX10_telling_53 (s_X10_plainTells hfl hE h1) npX10_plainTells rfl (Nat.le_of_ble_eq_true rfl) ?_
      cases h
      exact j_iret hX hR dX10_telling_56
    · rw [if_pos hc] at h
      refine j_aload_n hX 0 dX10_telling_35 rfl rfl ?_
      refine j_bipush hX dX10_telling_36 (rc rfl) (by decide) ?_
      obtain ⟨S5, h1, h⟩ := bs h
      refine j_callVV hX mwX10_ran miX10_ran wd1680 cbX10 ty56 hyX10_ran (by omega) (by decide) ⟨Nat.zero_le _, Nat.zero_le _⟩ dX10_telling_38 (s_X10_ran hfl hE h1) npX10_ran rfl (Nat.le_of_ble_eq_true rfl) ?_
      refine j_aload_n hX 0 dX10_telling_41 rfl rfl ?_
      refine j_iload_n hX 1 dX10_telling_42 rfl rfl ?_
      refine j_iload_n hX 2 dX10_telling_43 rfl rfl ?_
      obtain ⟨x7, S6, h1, h⟩ := bd2_s h
      refine j_callVI hX mwX10_plainTells miX10_plainTells wd1720 cbX10 ty56 hyX10_plainTells (by omega) (by decide) ⟨Nat.zero_le _, Nat.zero_le _⟩ dX10_telling_44 (s_X10_plainTells hfl hE h1) npX10_plainTells rfl (Nat.le_of_ble_eq_true rfl) ?_
      refine j_iconst hX dX10_telling_47 (rc rfl) ?_
      refine j_iadd hX dX10_telling_48 ?_
      cases h
      exact j_iret hX hR dX10_telling_49
  · rw [if_pos hc] at h
    refine j_aload_n hX 0 dX10_telling_10 rfl rfl ?_
    refine j_bipush hX dX10_telling_11 (rc rfl) (by decide) ?_
    obtain ⟨S8, h1, h⟩ := bs h
    refine j_callVV hX mwX10_ran miX10_ran wd1680 cbX10 ty56 hyX10_ran (by omega) (by decide) ⟨Nat.zero_le _, Nat.zero_le _⟩ dX10_telling_13 (s_X10_ran hfl hE h1) npX10_ran rfl (Nat.le_of_ble_eq_true rfl) ?_
    refine j_aload_n hX 0 dX10_telling_16 rfl rfl ?_
    refine j_iload_n hX 1 dX10_telling_17 rfl rfl ?_
    refine j_iload_n hX 2 dX10_telling_18 rfl rfl ?_
    obtain ⟨x10, S9, h1, h⟩ := bd2_s h
    refine j_callVI hX mwX10_plainTells miX10_plainTells wd1720 cbX10 ty56 hyX10_plainTells (by omega) (by decide) ⟨Nat.zero_le _, Nat.zero_le _⟩ dX10_telling_19 (s_X10_plainTells hfl hE h1) npX10_plainTells rfl (Nat.le_of_ble_eq_true rfl) ?_
    refine j_iconst hX dX10_telling_22 (rc rfl) ?_
    refine j_ixor hX dX10_telling_23 ?_
    cases h
    exact j_iret hX hR dX10_telling_24
theorem s_X10_act {g : G0} {B : Nat → Nat} {n : Nat} {E : Mem → Mem} {a1 : Int} {a2 : Int} {a3 : Int} {S : Mem} {r : Int} {S' : Mem} (hfl : g.2.2.2.2 = true) (hE : Lens E PM) (h : g_X10_act a1 a2 a3 S = some (r, S')) : Cn g B n yX10_act cX10_act 4 (some .int) 10 [vR 56, vI (a1), vI (a2), vI (a3)] (E S) (QcI g B n r (E S')) := by
  refine Cn.of (by decide +kernel) (Nat.le_of_ble_eq_true rfl) (fun X hg hnl hX hR => ?_)
  subst hg
  have hX : Ctx X cX10_act "TelegramFeelingsModel" 10 := hX
  unfold g_X10_act at h
  show JW X B n 0 0 0 [(0, vR 56), (1, vI (a1)), (2, vI (a2)), (3, vI (a3))] [] (E S) (QM X (QcI (gX X) B n r (E S')))
  refine j_aload_n hX 0 dX10_act_0 rfl rfl ?_
  refine j_iconst hX dX10_act_1 (rc rfl) ?_
  refine j_putI (k := 54) hX hE cbX10 ty56 pc56 (by decide) rfl wd1194 rfl (Or.inl rfl) rfl dX10_act_2 ?_
  obtain ⟨S1, hx, h⟩ := ap_s h
  rw [← hx]
  clear hx
  refine j_aload_n hX 0 dX10_act_5 rfl rfl ?_
  refine j_iload_n hX 1 dX10_act_6 rfl rfl ?_
  obtain ⟨x2, h1, h⟩ := bs h
  refine j_callVI hX mwX10_isBody miX10_isBody wd1669 cbX10 ty56 hyX10_isBody (by omega) (by decide) ⟨Nat.zero_le _, Nat.zero_le _⟩ dX10_act_7 (s_X10_isBody hfl hE h1) npX10_isBody rfl (Nat.le_of_ble_eq_true rfl) ?_
  refine j_if_eq hX (tgt := 22) dX10_act_10 (by decide) (fun hc => ?_) (fun hc => ?_)
  · rw [if_pos hc] at h
    refine j_iconst hX dX10_act_22 (rc rfl) ?_
    cases h
    exact j_iret hX hR dX10_act_23
  · rw [if_neg hc] at h
    refine j_iload_n hX 2 dX10_act_13 rfl rfl ?_
    refine j_iconst hX dX10_act_14 (rc rfl) ?_
    refine j_iconst hX dX10_act_15 (rc rfl) ?_
    refine j_callSI hX mwX10_in msX10_in wd1326 hyX10_in (by omega) (by decide) ⟨Nat.zero_le _, Nat.zero_le _⟩ dX10_act_16 (s_X10_in hfl rfl) npX10_in rfl (Nat.le_of_ble_eq_true rfl) ?_
    refine j_if_ne hX (tgt := 24) dX10_act_19 (by decide) (fun hc => ?_) (fun hc => ?_)
    · rw [if_neg hc] at h
      refine j_iload_n hX 2 dX10_act_24 rfl rfl ?_
      refine j_if_ne hX (tgt := 37) dX10_act_25 (by decide) (fun hc => ?_) (fun hc => ?_)
      · rw [if_neg hc] at h
        refine j_iload_n hX 2 dX10_act_37 rfl rfl ?_
        refine j_iconst hX dX10_act_38 (rc rfl) ?_
        refine j_icmp_ne hX (tgt := 51) dX10_act_39 (by decide) (fun hc => ?_) (fun hc => ?_)
        · rw [if_neg hc] at h
          refine j_iload_n hX 2 dX10_act_51 rfl rfl ?_
          refine j_iconst hX dX10_act_52 (rc rfl) ?_
          refine j_icmp_ne hX (tgt := 65) dX10_act_53 (by decide) (fun hc => ?_) (fun hc => ?_)
          · rw [if_neg hc] at h
            refine j_aload_n hX 0 dX10_act_65 rfl rfl ?_
            refine j_iload_n hX 1 dX10_act_66 rfl rfl ?_
            refine j_iload_n hX 3 dX10_act_67 rfl rfl ?_
            obtain ⟨x4, S3, h1, h⟩ := bd2_s h
            refine j_callVI hX mwX10_telling miX10_telling wd1716 cbX10 ty56 hyX10_telling (by omega) (by decide) ⟨Nat.zero_le _, Nat.zero_le _⟩ dX10_act_68 (s_X10_telling hfl hE h1) npX10_telling rfl (Nat.le_of_ble_eq_true rfl) ?_
            cases h
            exact j_iret hX hR dX10_act_71
          · rw [if_pos hc] at h
            refine j_aload_n hX 0 dX10_act_56 rfl rfl ?_
            refine j_iload_n hX 1 dX10_act_57 rfl rfl ?_
            refine j_iload_n hX 3 dX10_act_58 rfl rfl ?_
            obtain ⟨x6, S5, h1, h⟩ := bd2_s h
            refine j_callVI hX mwX10_erring miX10_erring wd1704 cbX10 ty56 hyX10_erring (by omega) (by decide) ⟨Nat.zero_le _, Nat.zero_le _⟩ dX10_act_59 (s_X10_erring hfl hE h1) npX10_erring rfl (Nat.le_of_ble_eq_true rfl) ?_
            refine j_goto hX (tgt := 71) dX10_act_62 (by decide) ?_
            cases h
            exact j_iret hX hR dX10_act_71
        · rw [if_pos hc] at h
          refine j_aload_n hX 0 dX10_act_42 rfl rfl ?_
          refine j_iload_n hX 1 dX10_act_43 rfl rfl ?_
          refine j_iload_n hX 3 dX10_act_44 rfl rfl ?_
          obtain ⟨x8, S7, h1, h⟩ := bd2_s h
          refine j_callVI hX mwX10_costing miX10_costing wd1692 cbX10 ty56 hyX10_costing (by omega) (by decide) ⟨Nat.zero_le _, Nat.zero_le _⟩ dX10_act_45 (s_X10_costing hfl hE h1) npX10_costing rfl (Nat.le_of_ble_eq_true rfl) ?_
          refine j_goto hX (tgt := 71) dX10_act_48 (by decide) ?_
          cases h
          exact j_iret hX hR dX10_act_71
      · rw [if_pos hc] at h
        refine j_aload_n hX 0 dX10_act_28 rfl rfl ?_
        refine j_iload_n hX 1 dX10_act_29 rfl rfl ?_
        refine j_iload_n hX 3 dX10_act_30 rfl rfl ?_
        obtain ⟨x10, S9, h1, h⟩ := bd2_s h
        refine j_callVI hX mwX10_saying miX10_saying wd1673 cbX10 ty56 hyX10_saying (by omega) (by decide) ⟨Nat.zero_le _, Nat.zero_le _⟩ dX10_act_31 (s_X10_saying hfl hE h1) npX10_saying rfl (Nat.le_of_ble_eq_true rfl) ?_
        refine j_goto hX (tgt := 71) dX10_act_34 (by decide) ?_
        cases h
        exact j_iret hX hR dX10_act_71
    · rw [if_pos hc] at h
      refine j_iconst hX dX10_act_22 (rc rfl) ?_
      cases h
      exact j_iret hX hR dX10_act_23
theorem s_X10_count {g : G0} {B : Nat → Nat} {n : Nat} {E : Mem → Mem} {a1 : Int} {S : Mem} {r : Int} (hfl : g.2.2.2.2 = true) (hE : Lens E PM) (h : g_X10_count a1 S = r) : Cn g B n yX10_count cX10_count 2 (some .int) 1 [vR 56, vI (a1)] (E S) (QcI g B n r (E S)) := by
  refine Cn.of (by decide +kernel) (Nat.le_of_ble_eq_true rfl) (fun X hg hnl hX hR => ?_)
  subst hg
  have hX : Ctx X cX10_count "TelegramFeelingsModel" 1 := hX
  unfold g_X10_count at h
  show JW X B n 0 0 0 [(0, vR 56), (1, vI (a1))] [] (E S) (QM X (QcI (gX X) B n r (E S)))
  refine j_iload_n hX 1 dX10_count_0 rfl rfl ?_
  by_cases hc0 : a1 = 0
  · rw [if_pos hc0] at h
    refine j_tin hX (tgt := 40) dX10_count_1 hc0 (by decide) (by decide) rfl (by decide) ?_
    refine j_aload_n hX 0 dX10_count_40 rfl rfl ?_
    refine j_getI (k := 1) hX hE cbX10 ty56 pc56 (by decide) rfl wd1141 rfl dX10_count_41 ?_
    subst h
    exact j_iret hX hR dX10_count_44
  · rw [if_neg hc0] at h
    by_cases hc1 : a1 = 1
    · rw [if_pos hc1] at h
      refine j_tin hX (tgt := 45) dX10_count_1 hc1 (by decide) (by decide) rfl (by decide) ?_
      refine j_aload_n hX 0 dX10_count_45 rfl rfl ?_
      refine j_getI (k := 7) hX hE cbX10 ty56 pc56 (by decide) rfl wd1147 rfl dX10_count_46 ?_
      subst h
      exact j_iret hX hR dX10_count_49
    · rw [if_neg hc1] at h
      by_cases hc2 : a1 = 2
      · rw [if_pos hc2] at h
        refine j_tin hX (tgt := 50) dX10_count_1 hc2 (by decide) (by decide) rfl (by decide) ?_
        refine j_aload_n hX 0 dX10_count_50 rfl rfl ?_
        refine j_getI (k := 18) hX hE cbX10 ty56 pc56 (by decide) rfl wd1158 rfl dX10_count_51 ?_
        subst h
        exact j_iret hX hR dX10_count_54
      · rw [if_neg hc2] at h
        by_cases hc3 : a1 = 3
        · rw [if_pos hc3] at h
          refine j_tin hX (tgt := 55) dX10_count_1 hc3 (by decide) (by decide) rfl (by decide) ?_
          refine j_aload_n hX 0 dX10_count_55 rfl rfl ?_
          refine j_getI (k := 11) hX hE cbX10 ty56 pc56 (by decide) rfl wd1151 rfl dX10_count_56 ?_
          subst h
          exact j_iret hX hR dX10_count_59
        · rw [if_neg hc3] at h
          by_cases hc4 : a1 = 4
          · rw [if_pos hc4] at h
            refine j_tin hX (tgt := 60) dX10_count_1 hc4 (by decide) (by decide) rfl (by decide) ?_
            refine j_aload_n hX 0 dX10_count_60 rfl rfl ?_
            refine j_getI (k := 52) hX hE cbX10 ty56 pc56 (by decide) rfl wd1192 rfl dX10_count_61 ?_
            subst h
            exact j_iret hX hR dX10_count_64
          · rw [if_neg hc4] at h
            by_cases hc5 : a1 = 5
            · rw [if_pos hc5] at h
              refine j_tin hX (tgt := 65) dX10_count_1 hc5 (by decide) (by decide) rfl (by decide) ?_
              refine j_aload_n hX 0 dX10_count_65 rfl rfl ?_
              refine j_getI (k := 54) hX hE cbX10 ty56 pc56 (by decide) rfl wd1194 rfl dX10_count_66 ?_
              subst h
              exact j_iret hX hR dX10_count_69
            · rw [if_neg hc5] at h
              refine j_tout hX (tgt := 70) dX10_count_1 (by omega) (by decide) ?_
              refine j_iconst hX dX10_count_70 (rc rfl) ?_
              subst h
              exact j_iret hX hR dX10_count_71
theorem s_X10_keep {g : G0} {B : Nat → Nat} {n : Nat} {E : Mem → Mem} {a1 : Int} {a2 : Int} {S : Mem} {r : Int} {S' : Mem} (hfl : g.2.2.2.2 = true) (hE : Lens E PM) (h : g_X10_keep a1 a2 S = some (r, S')) : Cn g B n yX10_keep cX10_keep 3 (some .int) 3 [vR 56, vI (a1), vI (a2)] (E S) (QcI g B n r (E S')) := by
  refine Cn.of (by decide +kernel) (Nat.le_of_ble_eq_true rfl) (fun X hg hnl hX hR => ?_)
  subst hg
  have hX : Ctx X cX10_keep "TelegramFeelingsModel" 3 := hX
  unfold g_X10_keep at h
  show JW X B n 0 0 0 [(0, vR 56), (1, vI (a1)), (2, vI (a2))] [] (E S) (QM X (QcI (gX X) B n r (E S')))
  refine j_iload_n hX 1 dX10_keep_0 rfl rfl ?_
  obtain ⟨x1, h1, h⟩ := bs h
  refine j_callSI hX mwX10_isShelf msX10_isShelf wd1337 hyX10_isShelf (by omega) (by decide) ⟨Nat.zero_le _, Nat.zero_le _⟩ dX10_keep_1 (s_X10_isShelf hfl h1) npX10_isShelf rfl (Nat.le_of_ble_eq_true rfl) ?_
  refine j_if_eq hX (tgt := 20) dX10_keep_4 (by decide) (fun hc => ?_) (fun hc => ?_)
  · rw [if_pos hc] at h
    refine j_iconst hX dX10_keep_20 (rc rfl) ?_
    cases h
    exact j_iret hX hR dX10_keep_21
  · rw [if_neg hc] at h
    refine j_iload_n hX 2 dX10_keep_7 rfl rfl ?_
    refine j_iconst hX dX10_keep_8 (rc rfl) ?_
    refine j_icmp_eq hX (tgt := 22) dX10_keep_9 (by decide) (fun hc => ?_) (fun hc => ?_)
    · rw [if_pos hc] at h
      refine j_aload_n hX 0 dX10_keep_22 rfl rfl ?_
      refine j_getS (k := 56) hX hfl cbX10 ty56 (by decide) rfl wd1196 rfl sb56_56 dX10_keep_23 ?_
      refine j_iload_n hX 1 dX10_keep_26 rfl rfl ?_
      refine j_iload_n hX 2 dX10_keep_27 rfl rfl ?_
      obtain ⟨S2, hv, h⟩ := bs h
      refine j_iast hX hE ty93 pc93 hv dX10_keep_28 ?_
      refine j_iconst hX dX10_keep_29 (rc rfl) ?_
      cases h
      exact j_iret hX hR dX10_keep_30
    · rw [if_neg hc] at h
      refine j_aload_n hX 0 dX10_keep_12 rfl rfl ?_
      refine j_iload_n hX 2 dX10_keep_13 rfl rfl ?_
      obtain ⟨x3, h1, h⟩ := bs h
      refine j_callVI hX mwX10_isBody miX10_isBody wd1669 cbX10 ty56 hyX10_isBody (by omega) (by decide) ⟨Nat.zero_le _, Nat.zero_le _⟩ dX10_keep_14 (s_X10_isBody hfl hE h1) npX10_isBody rfl (Nat.le_of_ble_eq_true rfl) ?_
      refine j_if_ne hX (tgt := 22) dX10_keep_17 (by decide) (fun hc => ?_) (fun hc => ?_)
      · rw [if_neg hc] at h
        refine j_aload_n hX 0 dX10_keep_22 rfl rfl ?_
        refine j_getS (k := 56) hX hfl cbX10 ty56 (by decide) rfl wd1196 rfl sb56_56 dX10_keep_23 ?_
        refine j_iload_n hX 1 dX10_keep_26 rfl rfl ?_
        refine j_iload_n hX 2 dX10_keep_27 rfl rfl ?_
        obtain ⟨S4, hv, h⟩ := bs h
        refine j_iast hX hE ty93 pc93 hv dX10_keep_28 ?_
        refine j_iconst hX dX10_keep_29 (rc rfl) ?_
        cases h
        exact j_iret hX hR dX10_keep_30
      · rw [if_pos hc] at h
        refine j_iconst hX dX10_keep_20 (rc rfl) ?_
        cases h
        exact j_iret hX hR dX10_keep_21
theorem sl_X10_row_54 {X : K0} {B : Nat → Nat} {n : Nat} {E : Mem → Mem} {r : Int} {S' : Mem} (hX : Ctx X cX10_row "TelegramFeelingsModel" 3) (hR : CR X (some .int)) (hfl : (gX X).2.2.2.2 = true) (hnl : X.2.2.2.2.2.2.2.2.2.2.2.2.2.2 = 5) (hE : Lens E PM)  {v1 : Int}  : ∀ (fu : Nat) (v4 : Int) (S : Mem), g_X10_row_L54 v1 fu v4 S = some (r, S') → JW X B n 0 0 54 [(0, vR 56), (1, vI (v1)), (4, vI (v4))] [] (E S) (QM X (QcI (gX X) B n r (E S'))) := by
  intro fu
  induction fu with
  | zero =>
    intro v4 S h
    rw [g_X10_row_L54] at h
    cases h
  | succ fu ih =>
    intro v4 S h
    rw [g_X10_row_L54] at h
    refine j_iload hX 2 dX10_row_54 rfl ?_
    refine j_bipush hX dX10_row_56 (rc rfl) (by decide) ?_
    refine j_iload_n hX 1 dX10_row_58 rfl rfl ?_
    refine j_imul hX dX10_row_59 ?_
    refine j_bipush hX dX10_row_60 (rc rfl) (by decide) ?_
    refine j_iadd hX dX10_row_62 ?_
    refine j_icmp_ge hX (tgt := 80) dX10_row_63 (by decide) (fun hc => ?_) (fun hc => ?_)
    · rw [if_pos hc] at h
      refine j_iconst hX dX10_row_80 (rc rfl) ?_
      cases h
      exact j_iret hX hR dX10_row_81
    · rw [if_neg hc] at h
      refine j_aload_n hX 0 dX10_row_66 rfl rfl ?_
      refine j_getS (k := 58) hX hfl cbX10 ty56 (by decide) rfl wd1198 rfl sb56_58 dX10_row_67 ?_
      refine j_iload hX 2 dX10_row_70 rfl ?_
      refine j_lconst (z := 0) hX dX10_row_72 rfl (rcl rfl) ?_
      obtain ⟨S4, hv, h⟩ := bs h
      refine j_last hX hE ty95 pc95 hv dX10_row_73 ?_
      refine j_iinc (L' := [(4, vI (w32 (v4 + 1))), (0, vR 56), (1, vI (v1))]) hX 2 dX10_row_74 hnl (by decide) rfl rfl ?_
      refine j_goto hX (tgt := 54) dX10_row_77 (by decide) ?_
      refine j_sub [1, 2, 0] rfl ?_
      exact ih _ _ h
theorem s_X10_row {g : G0} {B : Nat → Nat} {n : Nat} {E : Mem → Mem} {a1 : Int} {a2 : Int} {a3 : Int} {S : Mem} {r : Int} {S' : Mem} (hfl : g.2.2.2.2 = true) (hE : Lens E PM) (h : g_X10_row a1 a2 a3 S = some (r, S')) : Cn g B n yX10_row cX10_row 5 (some .int) 3 [vR 56, vI (a1), vI (a2), vI (a3)] (E S) (QcI g B n r (E S')) := by
  refine Cn.of (by decide +kernel) (Nat.le_of_ble_eq_true rfl) (fun X hg hnl hX hR => ?_)
  subst hg
  have hX : Ctx X cX10_row "TelegramFeelingsModel" 3 := hX
  unfold g_X10_row at h
  show JW X B n 0 0 0 [(0, vR 56), (1, vI (a1)), (2, vI (a2)), (3, vI (a3))] [] (E S) (QM X (QcI (gX X) B n r (E S')))
  refine j_iload_n hX 1 dX10_row_0 rfl rfl ?_
  obtain ⟨x1, h1, h⟩ := bs h
  refine j_callSI hX mwX10_isShelf msX10_isShelf wd1337 hyX10_isShelf (by omega) (by decide) ⟨Nat.zero_le _, Nat.zero_le _⟩ dX10_row_1 (s_X10_isShelf hfl h1) npX10_isShelf rfl (Nat.le_of_ble_eq_true rfl) ?_
  refine j_if_eq hX (tgt := 22) dX10_row_4 (by decide) (fun hc => ?_) (fun hc => ?_)
  · rw [if_pos hc] at h
    refine j_iconst hX dX10_row_22 (rc rfl) ?_
    cases h
    exact j_iret hX hR dX10_row_23
  · rw [if_neg hc] at h
    refine j_iload_n hX 2 dX10_row_7 rfl rfl ?_
    refine j_iconst hX dX10_row_8 (rc rfl) ?_
    refine j_iconst hX dX10_row_9 (rc rfl) ?_
    refine j_callSI hX mwX10_in msX10_in wd1326 hyX10_in (by omega) (by decide) ⟨Nat.zero_le _, Nat.zero_le _⟩ dX10_row_10 (s_X10_in hfl rfl) npX10_in rfl (Nat.le_of_ble_eq_true rfl) ?_
    refine j_if_eq hX (tgt := 22) dX10_row_13 (by decide) (fun hc => ?_) (fun hc => ?_)
    · rw [if_pos hc] at h
      refine j_iconst hX dX10_row_22 (rc rfl) ?_
      cases h
      exact j_iret hX hR dX10_row_23
    · rw [if_neg hc] at h
      refine j_iload_n hX 3 dX10_row_16 rfl rfl ?_
      refine j_bipush hX dX10_row_17 (rc rfl) (by decide) ?_
      refine j_icmp_le hX (tgt := 24) dX10_row_19 (by decide) (fun hc => ?_) (fun hc => ?_)
      · rw [if_pos hc] at h
        refine j_iload_n hX 3 dX10_row_24 rfl rfl ?_
        refine j_if_ge hX (tgt := 31) dX10_row_25 (by decide) (fun hc => ?_) (fun hc => ?_)
        · rw [if_pos hc] at h
          refine j_aload_n hX 0 dX10_row_31 rfl rfl ?_
          refine j_getS (k := 56) hX hfl cbX10 ty56 (by decide) rfl wd1196 rfl sb56_56 dX10_row_32 ?_
          refine j_iload_n hX 1 dX10_row_35 rfl rfl ?_
          refine j_bipush hX dX10_row_36 (rc rfl) (by decide) ?_
          refine j_iload_n hX 2 dX10_row_38 rfl rfl ?_
          refine j_isub hX dX10_row_39 ?_
          obtain ⟨S2, hv, h⟩ := bs h
          refine j_iast hX hE ty93 pc93 hv dX10_row_40 ?_
          refine j_aload_n hX 0 dX10_row_41 rfl rfl ?_
          refine j_getS (k := 57) hX hfl cbX10 ty56 (by decide) rfl wd1197 rfl sb56_57 dX10_row_42 ?_
          refine j_iload_n hX 1 dX10_row_45 rfl rfl ?_
          refine j_iload_n hX 3 dX10_row_46 rfl rfl ?_
          obtain ⟨S3, hv, h⟩ := bs h
          refine j_iast hX hE ty94 pc94 hv dX10_row_47 ?_
          refine j_bipush hX dX10_row_48 (rc rfl) (by decide) ?_
          refine j_iload_n hX 1 dX10_row_50 rfl rfl ?_
          refine j_imul hX dX10_row_51 ?_
          refine j_istore (L' := [(4, vI (w32 (60 * a1))), (0, vR 56), (1, vI (a1)), (2, vI (a2)), (3, vI (a3))]) hX dX10_row_52 hnl (by decide) rfl ?_
          refine j_sub [1, 2, 0] rfl ?_
          refine sl_X10_row_54 hX hR hfl hnl hE  _ _ _ h
        · rw [if_neg hc] at h
          refine j_bipush hX dX10_row_28 (rc rfl) (by decide) ?_
          cases h
          exact j_iret hX hR dX10_row_30
      · rw [if_neg hc] at h
        refine j_iconst hX dX10_row_22 (rc rfl) ?_
        cases h
        exact j_iret hX hR dX10_row_23
theorem s_X10_whyNoPlace {g : G0} {B : Nat → Nat} {n : Nat} {E : Mem → Mem} {a1 : Int} {a2 : Int} {S : Mem} {r : Int} (hfl : g.2.2.2.2 = true) (hE : Lens E PM) (h : g_X10_whyNoPlace a1 a2 S = some r) : Cn g B n yX10_whyNoPlace cX10_whyNoPlace 3 (some .int) 3 [vR 56, vI (a1), vI (a2)] (E S) (QcI g B n r (E S)) := by
  refine Cn.of (by decide +kernel) (Nat.le_of_ble_eq_true rfl) (fun X hg hnl hX hR => ?_)
  subst hg
  have hX : Ctx X cX10_whyNoPlace "TelegramFeelingsModel" 3 := hX
  unfold g_X10_whyNoPlace at h
  show JW X B n 0 0 0 [(0, vR 56), (1, vI (a1)), (2, vI (a2))] [] (E S) (QM X (QcI (gX X) B n r (E S)))
  refine j_iload_n hX 1 dX10_whyNoPlace_0 rfl rfl ?_
  obtain ⟨x1, h1, h⟩ := bs h
  refine j_callSI hX mwX10_isShelf msX10_isShelf wd1337 hyX10_isShelf (by omega) (by decide) ⟨Nat.zero_le _, Nat.zero_le _⟩ dX10_whyNoPlace_1 (s_X10_isShelf hfl h1) npX10_isShelf rfl (Nat.le_of_ble_eq_true rfl) ?_
  refine j_if_ne hX (tgt := 9) dX10_whyNoPlace_4 (by decide) (fun hc => ?_) (fun hc => ?_)
  · rw [if_neg hc] at h
    refine j_aload_n hX 0 dX10_whyNoPlace_9 rfl rfl ?_
    refine j_getS (k := 56) hX hfl cbX10 ty56 (by decide) rfl wd1196 rfl sb56_56 dX10_whyNoPlace_10 ?_
    refine j_iload_n hX 1 dX10_whyNoPlace_13 rfl rfl ?_
    obtain ⟨x2, hv, h⟩ := bs h
    refine j_iald hX hE ty93 pc93 hv dX10_whyNoPlace_14 ?_
    refine j_iconst hX dX10_whyNoPlace_15 (rc rfl) ?_
    refine j_icmp_ne hX (tgt := 22) dX10_whyNoPlace_16 (by decide) (fun hc => ?_) (fun hc => ?_)
    · rw [if_neg hc] at h
      refine j_aload_n hX 0 dX10_whyNoPlace_22 rfl rfl ?_
      refine j_getS (k := 56) hX hfl cbX10 ty56 (by decide) rfl wd1196 rfl sb56_56 dX10_whyNoPlace_23 ?_
      refine j_iload_n hX 1 dX10_whyNoPlace_26 rfl rfl ?_
      obtain ⟨x3, hv, h⟩ := bs h
      refine j_iald hX hE ty93 pc93 hv dX10_whyNoPlace_27 ?_
      refine j_if_lt hX (tgt := 34) dX10_whyNoPlace_28 (by decide) (fun hc => ?_) (fun hc => ?_)
      · rw [if_pos hc] at h
        refine j_iload_n hX 2 dX10_whyNoPlace_34 rfl rfl ?_
        refine j_iconst hX dX10_whyNoPlace_35 (rc rfl) ?_
        refine j_aload_n hX 0 dX10_whyNoPlace_36 rfl rfl ?_
        refine j_getS (k := 57) hX hfl cbX10 ty56 (by decide) rfl wd1197 rfl sb56_57 dX10_whyNoPlace_37 ?_
        refine j_iload_n hX 1 dX10_whyNoPlace_40 rfl rfl ?_
        obtain ⟨x4, hv, h⟩ := bs h
        refine j_iald hX hE ty94 pc94 hv dX10_whyNoPlace_41 ?_
        refine j_iconst hX dX10_whyNoPlace_42 (rc rfl) ?_
        refine j_isub hX dX10_whyNoPlace_43 ?_
        refine j_callSI hX mwX10_in msX10_in wd1326 hyX10_in (by omega) (by decide) ⟨Nat.zero_le _, Nat.zero_le _⟩ dX10_whyNoPlace_44 (s_X10_in hfl rfl) npX10_in rfl (Nat.le_of_ble_eq_true rfl) ?_
        refine j_if_eq hX (tgt := 54) dX10_whyNoPlace_47 (by decide) (fun hc => ?_) (fun hc => ?_)
        · rw [if_pos hc] at h
          refine j_bipush hX dX10_whyNoPlace_54 (rc rfl) (by decide) ?_
          cases h
          exact j_iret hX hR dX10_whyNoPlace_56
        · rw [if_neg hc] at h
          refine j_iconst hX dX10_whyNoPlace_50 (rc rfl) ?_
          refine j_goto hX (tgt := 56) dX10_whyNoPlace_51 (by decide) ?_
          cases h
          exact j_iret hX hR dX10_whyNoPlace_56
      · rw [if_neg hc] at h
        refine j_bipush hX dX10_whyNoPlace_31 (rc rfl) (by decide) ?_
        cases h
        exact j_iret hX hR dX10_whyNoPlace_33
    · rw [if_pos hc] at h
      refine j_bipush hX dX10_whyNoPlace_19 (rc rfl) (by decide) ?_
      cases h
      exact j_iret hX hR dX10_whyNoPlace_21
  · rw [if_pos hc] at h
    refine j_iconst hX dX10_whyNoPlace_7 (rc rfl) ?_
    cases h
    exact j_iret hX hR dX10_whyNoPlace_8
theorem s_X10_put {g : G0} {B : Nat → Nat} {n : Nat} {E : Mem → Mem} {a1 : Int} {a2 : Int} {a3 : Int} {S : Mem} {r : Int} {S' : Mem} (hfl : g.2.2.2.2 = true) (hE : Lens E PM) (h : g_X10_put a1 a2 a3 S = some (r, S')) : Cn g B n yX10_put cX10_put 7 (some .int) 4 [vR 56, vI (a1), vI (a2), vL (a3)] (E S) (QcI g B n r (E S')) := by
  refine Cn.of (by decide +kernel) (Nat.le_of_ble_eq_true rfl) (fun X hg hnl hX hR => ?_)
  subst hg
  have hX : Ctx X cX10_put "TelegramFeelingsModel" 4 := hX
  unfold g_X10_put at h
  show JW X B n 0 0 0 [(0, vR 56), (1, vI (a1)), (2, vI (a2)), (3, vL (a3))] [] (E S) (QM X (QcI (gX X) B n r (E S')))
  refine j_aload_n hX 0 dX10_put_0 rfl rfl ?_
  refine j_iload_n hX 1 dX10_put_1 rfl rfl ?_
  refine j_iload_n hX 2 dX10_put_2 rfl rfl ?_
  obtain ⟨x1, h1, h⟩ := bs h
  refine j_callVI hX mwX10_whyNoPlace miX10_whyNoPlace wd1740 cbX10 ty56 hyX10_whyNoPlace (by omega) (by decide) ⟨Nat.zero_le _, Nat.zero_le _⟩ dX10_put_3 (s_X10_whyNoPlace hfl hE h1) npX10_whyNoPlace rfl (Nat.le_of_ble_eq_true rfl) ?_
  refine j_istore (L' := [(5, vI (x1)), (0, vR 56), (1, vI (a1)), (2, vI (a2)), (3, vL (a3))]) hX dX10_put_6 hnl (by decide) rfl ?_
  refine j_iload hX 0 dX10_put_8 rfl ?_
  refine j_if_ge hX (tgt := 16) dX10_put_10 (by decide) (fun hc => ?_) (fun hc => ?_)
  · rw [if_pos hc] at h
    refine j_bipush hX dX10_put_16 (rc rfl) (by decide) ?_
    refine j_aload_n hX 1 dX10_put_18 rfl rfl ?_
    refine j_getS (k := 56) hX hfl cbX10 ty56 (by decide) rfl wd1196 rfl sb56_56 dX10_put_19 ?_
    refine j_iload_n hX 2 dX10_put_22 rfl rfl ?_
    obtain ⟨x2, hv, h⟩ := bs h
    refine j_iald hX hE ty93 pc93 hv dX10_put_23 ?_
    refine j_isub hX dX10_put_24 ?_
    refine j_istore (L' := [(6, vI (w32 ((-2) - x2))), (5, vI (x1)), (0, vR 56), (1, vI (a1)), (2, vI (a2)), (3, vL (a3))]) hX dX10_put_25 hnl (by decide) rfl ?_
    refine j_aload_n hX 2 dX10_put_27 rfl rfl ?_
    refine j_getS (k := 58) hX hfl cbX10 ty56 (by decide) rfl wd1198 rfl sb56_58 dX10_put_28 ?_
    refine j_bipush hX dX10_put_31 (rc rfl) (by decide) ?_
    refine j_iload_n hX 3 dX10_put_33 rfl rfl ?_
    refine j_imul hX dX10_put_34 ?_
    refine j_iload_n hX 4 dX10_put_35 rfl rfl ?_
    refine j_iadd hX dX10_put_36 ?_
    refine j_iload hX 0 dX10_put_37 rfl ?_
    refine j_if_ne hX (tgt := 49) dX10_put_39 (by decide) (fun hc => ?_) (fun hc => ?_)
    · rw [if_neg hc] at h
      refine j_iload hX 0 dX10_put_49 rfl ?_
      refine j_iconst hX dX10_put_51 (rc rfl) ?_
      refine j_icmp_ne hX (tgt := 62) dX10_put_52 (by decide) (fun hc => ?_) (fun hc => ?_)
      · rw [if_neg hc] at h
        refine j_iload hX 0 dX10_put_62 rfl ?_
        refine j_iconst hX dX10_put_64 (rc rfl) ?_
        refine j_icmp_ne hX (tgt := 74) dX10_put_65 (by decide) (fun hc => ?_) (fun hc => ?_)
        · rw [if_neg hc] at h
          refine j_iload hX 0 dX10_put_74 rfl ?_
          refine j_iconst hX dX10_put_76 (rc rfl) ?_
          refine j_icmp_ne hX (tgt := 84) dX10_put_77 (by decide) (fun hc => ?_) (fun hc => ?_)
          · rw [if_neg hc] at h
            refine j_lload_n hX 5 dX10_put_84 rfl rfl ?_
            refine j_lconst (z := 0) hX dX10_put_85 rfl (rcl rfl) ?_
            refine j_lcmp hX dX10_put_86 ?_
            refine j_if_eq hX (tgt := 94) dX10_put_87 (by decide) (fun hc => ?_) (fun hc => ?_)
            · rw [if_pos hc] at h
              refine j_lconst (z := 0) hX dX10_put_94 rfl (rcl rfl) ?_
              obtain ⟨S3, hv, h⟩ := bs h
              refine j_last hX hE ty95 pc95 hv dX10_put_95 ?_
              refine j_iconst hX dX10_put_96 (rc rfl) ?_
              cases h
              exact j_iret hX hR dX10_put_97
            · rw [if_neg hc] at h
              refine j_lconst (z := 1) hX dX10_put_90 rfl (rcl rfl) ?_
              refine j_goto hX (tgt := 95) dX10_put_91 (by decide) ?_
              obtain ⟨S4, hv, h⟩ := bs h
              refine j_last hX hE ty95 pc95 hv dX10_put_95 ?_
              refine j_iconst hX dX10_put_96 (rc rfl) ?_
              cases h
              exact j_iret hX hR dX10_put_97
          · rw [if_pos hc] at h
            refine j_lload_n hX 5 dX10_put_80 rfl rfl ?_
            refine j_goto hX (tgt := 95) dX10_put_81 (by decide) ?_
            obtain ⟨S5, hv, h⟩ := bs h
            refine j_last hX hE ty95 pc95 hv dX10_put_95 ?_
            refine j_iconst hX dX10_put_96 (rc rfl) ?_
            cases h
            exact j_iret hX hR dX10_put_97
        · rw [if_pos hc] at h
          refine j_lload_n hX 5 dX10_put_68 rfl rfl ?_
          refine j_l2i hX dX10_put_69 ?_
          refine j_i2l hX dX10_put_70 ?_
          refine j_goto hX (tgt := 95) dX10_put_71 (by decide) ?_
          obtain ⟨S6, hv, h⟩ := bs h
          refine j_last hX hE ty95 pc95 hv dX10_put_95 ?_
          refine j_iconst hX dX10_put_96 (rc rfl) ?_
          cases h
          exact j_iret hX hR dX10_put_97
      · rw [if_pos hc] at h
        refine j_lload_n hX 5 dX10_put_55 rfl rfl ?_
        refine j_l2i hX dX10_put_56 ?_
        refine j_i2s hX dX10_put_57 ?_
        refine j_i2l hX dX10_put_58 ?_
        refine j_goto hX (tgt := 95) dX10_put_59 (by decide) ?_
        obtain ⟨S7, hv, h⟩ := bs h
        refine j_last hX hE ty95 pc95 hv dX10_put_95 ?_
        refine j_iconst hX dX10_put_96 (rc rfl) ?_
        cases h
        exact j_iret hX hR dX10_put_97
    · rw [if_pos hc] at h
      refine j_lload_n hX 5 dX10_put_42 rfl rfl ?_
      refine j_l2i hX dX10_put_43 ?_
      refine j_i2b hX dX10_put_44 ?_
      refine j_i2l hX dX10_put_45 ?_
      refine j_goto hX (tgt := 95) dX10_put_46 (by decide) ?_
      obtain ⟨S8, hv, h⟩ := bs h
      refine j_last hX hE ty95 pc95 hv dX10_put_95 ?_
      refine j_iconst hX dX10_put_96 (rc rfl) ?_
      cases h
      exact j_iret hX hR dX10_put_97
  · rw [if_neg hc] at h
    refine j_iload hX 0 dX10_put_13 rfl ?_
    cases h
    exact j_iret hX hR dX10_put_15
theorem s_X10_element {g : G0} {B : Nat → Nat} {n : Nat} {E : Mem → Mem} {a1 : Int} {a2 : Int} {S : Mem} {r : Int} (hfl : g.2.2.2.2 = true) (hE : Lens E PM) (h : g_X10_element a1 a2 S = some r) : Cn g B n yX10_element cX10_element 3 (some .long) 4 [vR 56, vI (a1), vI (a2)] (E S) (QcL g B n r (E S)) := by
  refine Cn.of (by decide +kernel) (Nat.le_of_ble_eq_true rfl) (fun X hg hnl hX hR => ?_)
  subst hg
  have hX : Ctx X cX10_element "TelegramFeelingsModel" 4 := hX
  unfold g_X10_element at h
  show JW X B n 0 0 0 [(0, vR 56), (1, vI (a1)), (2, vI (a2))] [] (E S) (QM X (QcL (gX X) B n r (E S)))
  refine j_aload_n hX 0 dX10_element_0 rfl rfl ?_
  refine j_iload_n hX 1 dX10_element_1 rfl rfl ?_
  refine j_iload_n hX 2 dX10_element_2 rfl rfl ?_
  obtain ⟨x1, h1, h⟩ := bs h
  refine j_callVI hX mwX10_whyNoPlace miX10_whyNoPlace wd1740 cbX10 ty56 hyX10_whyNoPlace (by omega) (by decide) ⟨Nat.zero_le _, Nat.zero_le _⟩ dX10_element_3 (s_X10_whyNoPlace hfl hE h1) npX10_whyNoPlace rfl (Nat.le_of_ble_eq_true rfl) ?_
  refine j_if_ge hX (tgt := 15) dX10_element_6 (by decide) (fun hc => ?_) (fun hc => ?_)
  · rw [if_pos hc] at h
    refine j_aload_n hX 0 dX10_element_15 rfl rfl ?_
    refine j_getS (k := 58) hX hfl cbX10 ty56 (by decide) rfl wd1198 rfl sb56_58 dX10_element_16 ?_
    refine j_bipush hX dX10_element_19 (rc rfl) (by decide) ?_
    refine j_iload_n hX 1 dX10_element_21 rfl rfl ?_
    refine j_imul hX dX10_element_22 ?_
    refine j_iload_n hX 2 dX10_element_23 rfl rfl ?_
    refine j_iadd hX dX10_element_24 ?_
    obtain ⟨x2, hv, h⟩ := bs h
    refine j_lald hX hE ty95 pc95 hv dX10_element_25 ?_
    cases h
    exact j_lret hX hR dX10_element_26
  · rw [if_neg hc] at h
    refine j_ldc2 (z := (-9223372036854775808)) hX wd1568 (by decide) dX10_element_9 (rcl rfl) ?_
    refine j_goto hX (tgt := 26) dX10_element_12 (by decide) ?_
    cases h
    exact j_lret hX hR dX10_element_26
theorem sl_X10_shift_113 {X : K0} {B : Nat → Nat} {n : Nat} {E : Mem → Mem} {r : Int} {S' : Mem} (hX : Ctx X cX10_shift "TelegramFeelingsModel" 3) (hR : CR X (some .int)) (hfl : (gX X).2.2.2.2 = true) (hnl : X.2.2.2.2.2.2.2.2.2.2.2.2.2.2 = 7) (hE : Lens E PM) {k147 : Mem → Option (Int × Mem)} {v1 : Int} {v2 : Int} {v3 : Int} {v4 : Int} {v5 : Int} (K147 : ∀ (S : Mem), k147 S = some (r, S') → JW X B n 0 0 147 [(0, vR 56), (3, vI (v3)), (4, vI (v4)), (5, vI (v5))] [] (E S) (QM X (QcI (gX X) B n r (E S')))) : ∀ (fu : Nat) (v6 : Int) (S : Mem), g_X10_shift_L113 k147 v1 v2 v3 v4 v5 fu v6 S = some (r, S') → JW X B n 0 0 113 [(0, vR 56), (1, vI (v1)), (2, vI (v2)), (3, vI (v3)), (4, vI (v4)), (5, vI (v5)), (6, vI (v6))] [] (E S) (QM X (QcI (gX X) B n r (E S'))) := by
  intro fu
  induction fu with
  | zero =>
    intro v6 S h
    rw [g_X10_shift_L113] at h
    cases h
  | succ fu ih =>
    intro v6 S h
    rw [g_X10_shift_L113] at h
    refine j_iload hX 6 dX10_shift_113 rfl ?_
    refine j_iload hX 5 dX10_shift_115 rfl ?_
    refine j_icmp_ge hX (tgt := 147) dX10_shift_117 (by decide) (fun hc => ?_) (fun hc => ?_)
    · rw [if_pos hc] at h
      refine j_sub [0, 3, 4, 5] rfl ?_
      exact K147 _ h
    · rw [if_neg hc] at h
      refine j_aload_n hX 0 dX10_shift_120 rfl rfl ?_
      refine j_getS (k := 59) hX hfl cbX10 ty56 (by decide) rfl wd1199 rfl sb56_59 dX10_shift_121 ?_
      refine j_iload hX 6 dX10_shift_124 rfl ?_
      refine j_aload_n hX 0 dX10_shift_126 rfl rfl ?_
      refine j_getS (k := 58) hX hfl cbX10 ty56 (by decide) rfl wd1198 rfl sb56_58 dX10_shift_127 ?_
      refine j_bipush hX dX10_shift_130 (rc rfl) (by decide) ?_
      refine j_iload_n hX 1 dX10_shift_132 rfl rfl ?_
      refine j_imul hX dX10_shift_133 ?_
      refine j_iload_n hX 2 dX10_shift_134 rfl rfl ?_
      refine j_iadd hX dX10_shift_135 ?_
      refine j_iload hX 6 dX10_shift_136 rfl ?_
      refine j_iadd hX dX10_shift_138 ?_
      obtain ⟨x10, hv, h⟩ := bs h
      refine j_lald hX hE ty95 pc95 hv dX10_shift_139 ?_
      obtain ⟨S11, hv, h⟩ := bs h
      refine j_last hX hE ty96 pc96 hv dX10_shift_140 ?_
      refine j_iinc (L' := [(6, vI (w32 (v6 + 1))), (0, vR 56), (1, vI (v1)), (2, vI (v2)), (3, vI (v3)), (4, vI (v4)), (5, vI (v5))]) hX 6 dX10_shift_141 hnl (by decide) rfl rfl ?_
      refine j_goto hX (tgt := 113) dX10_shift_144 (by decide) ?_
      refine j_sub [1, 2, 3, 4, 5, 6, 0] rfl ?_
      exact ih _ _ h
theorem sl_X10_shift_150 {X : K0} {B : Nat → Nat} {n : Nat} {E : Mem → Mem} {r : Int} {S' : Mem} (hX : Ctx X cX10_shift "TelegramFeelingsModel" 3) (hR : CR X (some .int)) (hfl : (gX X).2.2.2.2 = true) (hnl : X.2.2.2.2.2.2.2.2.2.2.2.2.2.2 = 7) (hE : Lens E PM)  {v3 : Int} {v4 : Int} {v5 : Int}  : ∀ (fu : Nat) (v6 : Int) (S : Mem), g_X10_shift_L150 v3 v4 v5 fu v6 S = some (r, S') → JW X B n 0 0 150 [(0, vR 56), (3, vI (v3)), (4, vI (v4)), (5, vI (v5)), (6, vI (v6))] [] (E S) (QM X (QcI (gX X) B n r (E S'))) := by
  intro fu
  induction fu with
  | zero =>
    intro v6 S h
    rw [g_X10_shift_L150] at h
    cases h
  | succ fu ih =>
    intro v6 S h
    rw [g_X10_shift_L150] at h
    refine j_iload hX 4 dX10_shift_150 rfl ?_
    refine j_iload hX 3 dX10_shift_152 rfl ?_
    refine j_icmp_ge hX (tgt := 185) dX10_shift_154 (by decide) (fun hc => ?_) (fun hc => ?_)
    · rw [if_pos hc] at h
      refine j_iload hX 3 dX10_shift_185 rfl ?_
      cases h
      exact j_iret hX hR dX10_shift_187
    · rw [if_neg hc] at h
      refine j_aload_n hX 0 dX10_shift_157 rfl rfl ?_
      refine j_getS (k := 58) hX hfl cbX10 ty56 (by decide) rfl wd1198 rfl sb56_58 dX10_shift_158 ?_
      refine j_bipush hX dX10_shift_161 (rc rfl) (by decide) ?_
      refine j_iload_n hX 1 dX10_shift_163 rfl rfl ?_
      refine j_imul hX dX10_shift_164 ?_
      refine j_iload hX 2 dX10_shift_165 rfl ?_
      refine j_iadd hX dX10_shift_167 ?_
      refine j_iload hX 4 dX10_shift_168 rfl ?_
      refine j_iadd hX dX10_shift_170 ?_
      refine j_aload_n hX 0 dX10_shift_171 rfl rfl ?_
      refine j_getS (k := 59) hX hfl cbX10 ty56 (by decide) rfl wd1199 rfl sb56_59 dX10_shift_172 ?_
      refine j_iload hX 4 dX10_shift_175 rfl ?_
      obtain ⟨x13, hv, h⟩ := bs h
      refine j_lald hX hE ty96 pc96 hv dX10_shift_177 ?_
      obtain ⟨S14, hv, h⟩ := bs h
      refine j_last hX hE ty95 pc95 hv dX10_shift_178 ?_
      refine j_iinc (L' := [(6, vI (w32 (v6 + 1))), (0, vR 56), (3, vI (v3)), (4, vI (v4)), (5, vI (v5))]) hX 4 dX10_shift_179 hnl (by decide) rfl rfl ?_
      refine j_goto hX (tgt := 150) dX10_shift_182 (by decide) ?_
      refine j_sub [1, 2, 3, 4, 0] rfl ?_
      exact ih _ _ h
theorem s_X10_shift {g : G0} {B : Nat → Nat} {n : Nat} {E : Mem → Mem} {a1 : Int} {a2 : Int} {a3 : Int} {a4 : Int} {a5 : Int} {S : Mem} {r : Int} {S' : Mem} (hfl : g.2.2.2.2 = true) (hE : Lens E PM) (h : g_X10_shift a1 a2 a3 a4 a5 S = some (r, S')) : Cn g B n yX10_shift cX10_shift 7 (some .int) 3 [vR 56, vI (a1), vI (a2), vI (a3), vI (a4), vI (a5)] (E S) (QcI g B n r (E S')) := by
  refine Cn.of (by decide +kernel) (Nat.le_of_ble_eq_true rfl) (fun X hg hnl hX hR => ?_)
  subst hg
  have hX : Ctx X cX10_shift "TelegramFeelingsModel" 3 := hX
  unfold g_X10_shift at h
  show JW X B n 0 0 0 [(0, vR 56), (1, vI (a1)), (2, vI (a2)), (3, vI (a3)), (4, vI (a4)), (5, vI (a5))] [] (E S) (QM X (QcI (gX X) B n r (E S')))
  refine j_iload_n hX 1 dX10_shift_0 rfl rfl ?_
  obtain ⟨x1, h1, h⟩ := bs h
  refine j_callSI hX mwX10_isShelf msX10_isShelf wd1337 hyX10_isShelf (by omega) (by decide) ⟨Nat.zero_le _, Nat.zero_le _⟩ dX10_shift_1 (s_X10_isShelf hfl h1) npX10_isShelf rfl (Nat.le_of_ble_eq_true rfl) ?_
  refine j_if_eq hX (tgt := 14) dX10_shift_4 (by decide) (fun hc => ?_) (fun hc => ?_)
  · rw [if_pos hc] at h
    refine j_iconst hX dX10_shift_14 (rc rfl) ?_
    cases h
    exact j_iret hX hR dX10_shift_15
  · rw [if_neg hc] at h
    refine j_iload_n hX 3 dX10_shift_7 rfl rfl ?_
    obtain ⟨x2, h1, h⟩ := bs h
    refine j_callSI hX mwX10_isShelf msX10_isShelf wd1337 hyX10_isShelf (by omega) (by decide) ⟨Nat.zero_le _, Nat.zero_le _⟩ dX10_shift_8 (s_X10_isShelf hfl h1) npX10_isShelf rfl (Nat.le_of_ble_eq_true rfl) ?_
    refine j_if_ne hX (tgt := 16) dX10_shift_11 (by decide) (fun hc => ?_) (fun hc => ?_)
    · rw [if_neg hc] at h
      refine j_aload_n hX 0 dX10_shift_16 rfl rfl ?_
      refine j_getS (k := 56) hX hfl cbX10 ty56 (by decide) rfl wd1196 rfl sb56_56 dX10_shift_17 ?_
      refine j_iload_n hX 1 dX10_shift_20 rfl rfl ?_
      obtain ⟨x3, hv, h⟩ := bs h
      refine j_iald hX hE ty93 pc93 hv dX10_shift_21 ?_
      refine j_iconst hX dX10_shift_22 (rc rfl) ?_
      refine j_icmp_eq hX (tgt := 36) dX10_shift_23 (by decide) (fun hc => ?_) (fun hc => ?_)
      · rw [if_pos hc] at h
        refine j_bipush hX dX10_shift_36 (rc rfl) (by decide) ?_
        cases h
        exact j_iret hX hR dX10_shift_38
      · rw [if_neg hc] at h
        refine j_aload_n hX 0 dX10_shift_26 rfl rfl ?_
        refine j_getS (k := 56) hX hfl cbX10 ty56 (by decide) rfl wd1196 rfl sb56_56 dX10_shift_27 ?_
        refine j_iload_n hX 3 dX10_shift_30 rfl rfl ?_
        obtain ⟨x4, hv, h⟩ := bs h
        refine j_iald hX hE ty93 pc93 hv dX10_shift_31 ?_
        refine j_iconst hX dX10_shift_32 (rc rfl) ?_
        refine j_icmp_ne hX (tgt := 39) dX10_shift_33 (by decide) (fun hc => ?_) (fun hc => ?_)
        · rw [if_neg hc] at h
          refine j_aload_n hX 0 dX10_shift_39 rfl rfl ?_
          refine j_getS (k := 56) hX hfl cbX10 ty56 (by decide) rfl wd1196 rfl sb56_56 dX10_shift_40 ?_
          refine j_iload_n hX 1 dX10_shift_43 rfl rfl ?_
          obtain ⟨x5, hv, h⟩ := bs h
          refine j_iald hX hE ty93 pc93 hv dX10_shift_44 ?_
          refine j_if_ge hX (tgt := 63) dX10_shift_45 (by decide) (fun hc => ?_) (fun hc => ?_)
          · rw [if_pos hc] at h
            refine j_bipush hX dX10_shift_63 (rc rfl) (by decide) ?_
            cases h
            exact j_iret hX hR dX10_shift_65
          · rw [if_neg hc] at h
            refine j_aload_n hX 0 dX10_shift_48 rfl rfl ?_
            refine j_getS (k := 56) hX hfl cbX10 ty56 (by decide) rfl wd1196 rfl sb56_56 dX10_shift_49 ?_
            refine j_iload_n hX 1 dX10_shift_52 rfl rfl ?_
            obtain ⟨x6, hv, h⟩ := bs h
            refine j_iald hX hE ty93 pc93 hv dX10_shift_53 ?_
            refine j_aload_n hX 0 dX10_shift_54 rfl rfl ?_
            refine j_getS (k := 56) hX hfl cbX10 ty56 (by decide) rfl wd1196 rfl sb56_56 dX10_shift_55 ?_
            refine j_iload_n hX 3 dX10_shift_58 rfl rfl ?_
            obtain ⟨x7, hv, h⟩ := bs h
            refine j_iald hX hE ty93 pc93 hv dX10_shift_59 ?_
            refine j_icmp_eq hX (tgt := 66) dX10_shift_60 (by decide) (fun hc => ?_) (fun hc => ?_)
            · rw [if_pos hc] at h
              refine j_iload hX 5 dX10_shift_66 rfl ?_
              refine j_if_lt hX (tgt := 107) dX10_shift_68 (by decide) (fun hc => ?_) (fun hc => ?_)
              · rw [if_pos hc] at h
                refine j_bipush hX dX10_shift_107 (rc rfl) (by decide) ?_
                cases h
                exact j_iret hX hR dX10_shift_109
              · rw [if_neg hc] at h
                refine j_iload_n hX 2 dX10_shift_71 rfl rfl ?_
                refine j_if_lt hX (tgt := 107) dX10_shift_72 (by decide) (fun hc => ?_) (fun hc => ?_)
                · rw [if_pos hc] at h
                  refine j_bipush hX dX10_shift_107 (rc rfl) (by decide) ?_
                  cases h
                  exact j_iret hX hR dX10_shift_109
                · rw [if_neg hc] at h
                  refine j_iload hX 4 dX10_shift_75 rfl ?_
                  refine j_if_lt hX (tgt := 107) dX10_shift_77 (by decide) (fun hc => ?_) (fun hc => ?_)
                  · rw [if_pos hc] at h
                    refine j_bipush hX dX10_shift_107 (rc rfl) (by decide) ?_
                    cases h
                    exact j_iret hX hR dX10_shift_109
                  · rw [if_neg hc] at h
                    refine j_iload_n hX 2 dX10_shift_80 rfl rfl ?_
                    refine j_aload_n hX 0 dX10_shift_81 rfl rfl ?_
                    refine j_getS (k := 57) hX hfl cbX10 ty56 (by decide) rfl wd1197 rfl sb56_57 dX10_shift_82 ?_
                    refine j_iload_n hX 1 dX10_shift_85 rfl rfl ?_
                    obtain ⟨x8, hv, h⟩ := bs h
                    refine j_iald hX hE ty94 pc94 hv dX10_shift_86 ?_
                    refine j_iload hX 5 dX10_shift_87 rfl ?_
                    refine j_isub hX dX10_shift_89 ?_
                    refine j_icmp_gt hX (tgt := 107) dX10_shift_90 (by decide) (fun hc => ?_) (fun hc => ?_)
                    · rw [if_pos hc] at h
                      refine j_bipush hX dX10_shift_107 (rc rfl) (by decide) ?_
                      cases h
                      exact j_iret hX hR dX10_shift_109
                    · rw [if_neg hc] at h
                      refine j_iload hX 4 dX10_shift_93 rfl ?_
                      refine j_aload_n hX 0 dX10_shift_95 rfl rfl ?_
                      refine j_getS (k := 57) hX hfl cbX10 ty56 (by decide) rfl wd1197 rfl sb56_57 dX10_shift_96 ?_
                      refine j_iload_n hX 3 dX10_shift_99 rfl rfl ?_
                      obtain ⟨x9, hv, h⟩ := bs h
                      refine j_iald hX hE ty94 pc94 hv dX10_shift_100 ?_
                      refine j_iload hX 5 dX10_shift_101 rfl ?_
                      refine j_isub hX dX10_shift_103 ?_
                      refine j_icmp_le hX (tgt := 110) dX10_shift_104 (by decide) (fun hc => ?_) (fun hc => ?_)
                      · rw [if_pos hc] at h
                        refine j_iconst hX dX10_shift_110 (rc rfl) ?_
                        refine j_istore (L' := [(6, vI (0)), (0, vR 56), (1, vI (a1)), (2, vI (a2)), (3, vI (a3)), (4, vI (a4)), (5, vI (a5))]) hX dX10_shift_111 hnl (by decide) rfl ?_
                        refine j_sub [1, 2, 3, 4, 5, 6, 0] rfl ?_
                        refine sl_X10_shift_113 hX hR hfl hnl hE (fun S12 h => ?_) _ _ _ h
                        refine j_iconst hX dX10_shift_147 (rc rfl) ?_
                        refine j_istore (L' := [(6, vI (0)), (0, vR 56), (3, vI (a3)), (4, vI (a4)), (5, vI (a5))]) hX dX10_shift_148 hnl (by decide) rfl ?_
                        refine j_sub [1, 2, 3, 4, 0] rfl ?_
                        refine sl_X10_shift_150 hX hR hfl hnl hE  _ _ _ h
                      · rw [if_neg hc] at h
                        refine j_bipush hX dX10_shift_107 (rc rfl) (by decide) ?_
                        cases h
                        exact j_iret hX hR dX10_shift_109
            · rw [if_neg hc] at h
              refine j_bipush hX dX10_shift_63 (rc rfl) (by decide) ?_
              cases h
              exact j_iret hX hR dX10_shift_65
        · rw [if_pos hc] at h
          refine j_bipush hX dX10_shift_36 (rc rfl) (by decide) ?_
          cases h
          exact j_iret hX hR dX10_shift_38
    · rw [if_pos hc] at h
      refine j_iconst hX dX10_shift_14 (rc rfl) ?_
      cases h
      exact j_iret hX hR dX10_shift_15
theorem s_X10_taken {g : G0} {B : Nat → Nat} {n : Nat} {E : Mem → Mem} {a1 : Int} {a2 : Int} {S : Mem} {r : Int} (hfl : g.2.2.2.2 = true) (hE : Lens E PM) (h : g_X10_taken a1 a2 S = some r) : Cn g B n yX10_taken cX10_taken 3 (some .int) 3 [vR 56, vI (a1), vI (a2)] (E S) (QcI g B n r (E S)) := by
  refine Cn.of (by decide +kernel) (Nat.le_of_ble_eq_true rfl) (fun X hg hnl hX hR => ?_)
  subst hg
  have hX : Ctx X cX10_taken "TelegramFeelingsModel" 3 := hX
  unfold g_X10_taken at h
  show JW X B n 0 0 0 [(0, vR 56), (1, vI (a1)), (2, vI (a2))] [] (E S) (QM X (QcI (gX X) B n r (E S)))
  refine j_iload_n hX 1 dX10_taken_0 rfl rfl ?_
  obtain ⟨x1, h1, h⟩ := bs h
  refine j_callSI hX mwX10_isShelf msX10_isShelf wd1337 hyX10_isShelf (by omega) (by decide) ⟨Nat.zero_le _, Nat.zero_le _⟩ dX10_taken_1 (s_X10_isShelf hfl h1) npX10_isShelf rfl (Nat.le_of_ble_eq_true rfl) ?_
  refine j_if_eq hX (tgt := 17) dX10_taken_4 (by decide) (fun hc => ?_) (fun hc => ?_)
  · rw [if_pos hc] at h
    refine j_iconst hX dX10_taken_17 (rc rfl) ?_
    cases h
    exact j_iret hX hR dX10_taken_18
  · rw [if_neg hc] at h
    refine j_iload_n hX 2 dX10_taken_7 rfl rfl ?_
    refine j_iconst hX dX10_taken_8 (rc rfl) ?_
    refine j_bipush hX dX10_taken_9 (rc rfl) (by decide) ?_
    refine j_callSI hX mwX10_in msX10_in wd1326 hyX10_in (by omega) (by decide) ⟨Nat.zero_le _, Nat.zero_le _⟩ dX10_taken_11 (s_X10_in hfl rfl) npX10_in rfl (Nat.le_of_ble_eq_true rfl) ?_
    refine j_if_ne hX (tgt := 19) dX10_taken_14 (by decide) (fun hc => ?_) (fun hc => ?_)
    · rw [if_neg hc] at h
      refine j_aload_n hX 0 dX10_taken_19 rfl rfl ?_
      refine j_getS (k := 56) hX hfl cbX10 ty56 (by decide) rfl wd1196 rfl sb56_56 dX10_taken_20 ?_
      refine j_iload_n hX 1 dX10_taken_23 rfl rfl ?_
      obtain ⟨x2, hv, h⟩ := bs h
      refine j_iald hX hE ty93 pc93 hv dX10_taken_24 ?_
      refine j_iconst hX dX10_taken_25 (rc rfl) ?_
      refine j_icmp_ne hX (tgt := 32) dX10_taken_26 (by decide) (fun hc => ?_) (fun hc => ?_)
      · rw [if_neg hc] at h
        refine j_aload_n hX 0 dX10_taken_32 rfl rfl ?_
        refine j_getS (k := 56) hX hfl cbX10 ty56 (by decide) rfl wd1196 rfl sb56_56 dX10_taken_33 ?_
        refine j_iload_n hX 1 dX10_taken_36 rfl rfl ?_
        obtain ⟨x3, hv, h⟩ := bs h
        refine j_iald hX hE ty93 pc93 hv dX10_taken_37 ?_
        refine j_if_lt hX (tgt := 73) dX10_taken_38 (by decide) (fun hc => ?_) (fun hc => ?_)
        · rw [if_pos hc] at h
          refine j_bipush hX dX10_taken_73 (rc rfl) (by decide) ?_
          cases h
          exact j_iret hX hR dX10_taken_75
        · rw [if_neg hc] at h
          refine j_aload_n hX 0 dX10_taken_41 rfl rfl ?_
          refine j_getS (k := 53) hX hfl cbX10 ty56 (by decide) rfl wd1193 rfl sb56_53 dX10_taken_42 ?_
          refine j_aload_n hX 0 dX10_taken_45 rfl rfl ?_
          refine j_getS (k := 56) hX hfl cbX10 ty56 (by decide) rfl wd1196 rfl sb56_56 dX10_taken_46 ?_
          refine j_iload_n hX 1 dX10_taken_49 rfl rfl ?_
          obtain ⟨x4, hv, h⟩ := bs h
          refine j_iald hX hE ty93 pc93 hv dX10_taken_50 ?_
          obtain ⟨x5, hv, h⟩ := bs h
          refine j_iald hX hE ty91 pc91 hv dX10_taken_51 ?_
          refine j_iload_n hX 2 dX10_taken_52 rfl rfl ?_
          refine j_callSI hX mwX10_isUnder msX10_isUnder wd1677 hyX10_isUnder (by omega) (by decide) ⟨Nat.zero_le _, Nat.zero_le _⟩ dX10_taken_53 (s_X10_isUnder hfl rfl) npX10_isUnder rfl (Nat.le_of_ble_eq_true rfl) ?_
          refine j_if_eq hX (tgt := 73) dX10_taken_56 (by decide) (fun hc => ?_) (fun hc => ?_)
          · rw [if_pos hc] at h
            refine j_bipush hX dX10_taken_73 (rc rfl) (by decide) ?_
            cases h
            exact j_iret hX hR dX10_taken_75
          · rw [if_neg hc] at h
            refine j_aload_n hX 0 dX10_taken_59 rfl rfl ?_
            refine j_getS (k := 53) hX hfl cbX10 ty56 (by decide) rfl wd1193 rfl sb56_53 dX10_taken_60 ?_
            refine j_aload_n hX 0 dX10_taken_63 rfl rfl ?_
            refine j_getS (k := 56) hX hfl cbX10 ty56 (by decide) rfl wd1196 rfl sb56_56 dX10_taken_64 ?_
            refine j_iload_n hX 1 dX10_taken_67 rfl rfl ?_
            obtain ⟨x6, hv, h⟩ := bs h
            refine j_iald hX hE ty93 pc93 hv dX10_taken_68 ?_
            obtain ⟨x7, hv, h⟩ := bs h
            refine j_iald hX hE ty91 pc91 hv dX10_taken_69 ?_
            refine j_goto hX (tgt := 75) dX10_taken_70 (by decide) ?_
            cases h
            exact j_iret hX hR dX10_taken_75
      · rw [if_pos hc] at h
        refine j_bipush hX dX10_taken_29 (rc rfl) (by decide) ?_
        cases h
        exact j_iret hX hR dX10_taken_31
    · rw [if_pos hc] at h
      refine j_iconst hX dX10_taken_17 (rc rfl) ?_
      cases h
      exact j_iret hX hR dX10_taken_18
