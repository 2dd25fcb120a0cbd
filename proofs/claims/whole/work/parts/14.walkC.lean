theorem s_X0_add {g : G0} {B : Nat → Nat} {n : Nat} {E : Mem → Mem} {a1 : Int} {S : Mem} {r : Int} {S' : Mem} (hfl : g.2.2.2.2 = true) (hE : Lens E PC) (h : g_X0_add a1 S = some (r, S')) : Cn g B n yX0_add cX0_add 2 (some .int) 1 [vR 53, vI (a1)] (E S) (QcI g B n r (E S')) := by
  refine Cn.of (by decide +kernel) (Nat.le_of_ble_eq_true rfl) (fun X hg hnl hX hR => ?_)
  subst hg
  have hX : Ctx X cX0_add "TelegramFeelings$Bodies" 1 := hX
  unfold g_X0_add at h
  show JW X B n 0 0 0 [(0, vR 53), (1, vI (a1))] [] (E S) (QM X (QcI (gX X) B n r (E S')))
  refine j_aload_n hX 0 dX0_add_0 rfl rfl ?_
  refine j_getI (k := 1) hX hE cbX0 ty53 pc53 (by decide) rfl wd384 rfl dX0_add_1 ?_
  refine j_if_lt hX (tgt := 16) dX0_add_4 (by decide) (fun hc => ?_) (fun hc => ?_)
  · rw [if_pos hc] at h
    refine j_bipush hX dX0_add_16 (rc rfl) (by decide) ?_
    cases h
    exact j_iret hX hR dX0_add_18
  · rw [if_neg hc] at h
    refine j_aload_n hX 0 dX0_add_7 rfl rfl ?_
    refine j_getI (k := 1) hX hE cbX0 ty53 pc53 (by decide) rfl wd384 rfl dX0_add_8 ?_
    refine j_bipush hX dX0_add_11 (rc rfl) (by decide) ?_
    refine j_icmp_lt hX (tgt := 19) dX0_add_13 (by decide) (fun hc => ?_) (fun hc => ?_)
    · rw [if_pos hc] at h
      refine j_aload_n hX 0 dX0_add_19 rfl rfl ?_
      refine j_getS (k := 0) hX hfl cbX0 ty53 (by decide) rfl wd383 rfl sb53_0 dX0_add_20 ?_
      refine j_aload_n hX 0 dX0_add_23 rfl rfl ?_
      refine j_getI (k := 1) hX hE cbX0 ty53 pc53 (by decide) rfl wd384 rfl dX0_add_24 ?_
      refine j_iload_n hX 1 dX0_add_27 rfl rfl ?_
      obtain ⟨S1, hv, h⟩ := bs h
      refine j_iast hX hE ty54 pc54 hv dX0_add_28 ?_
      refine j_aload_n hX 0 dX0_add_29 rfl rfl ?_
      refine j_dup hX dX0_add_30 rfl ?_
      refine j_getI (k := 1) hX hE cbX0 ty53 pc53 (by decide) rfl wd384 rfl dX0_add_31 ?_
      refine j_dup_x1 hX dX0_add_34 rfl rfl ?_
      refine j_iconst hX dX0_add_35 (rc rfl) ?_
      refine j_iadd hX dX0_add_36 ?_
      refine j_putI (k := 1) hX hE cbX0 ty53 pc53 (by decide) rfl wd384 rfl (Or.inl rfl) rfl dX0_add_37 ?_
      obtain ⟨S2, hx, h⟩ := ap_s h
      rw [← hx]
      clear hx
      cases h
      exact j_iret hX hR dX0_add_40
    · rw [if_neg hc] at h
      refine j_bipush hX dX0_add_16 (rc rfl) (by decide) ?_
      cases h
      exact j_iret hX hR dX0_add_18
theorem s_X0_kindOf {g : G0} {B : Nat → Nat} {n : Nat} {E : Mem → Mem} {a1 : Int} {S : Mem} {r : Int} (hfl : g.2.2.2.2 = true) (hE : Lens E PC) (h : g_X0_kindOf a1 S = some r) : Cn g B n yX0_kindOf cX0_kindOf 2 (some .int) 1 [vR 53, vI (a1)] (E S) (QcI g B n r (E S)) := by
  refine Cn.of (by decide +kernel) (Nat.le_of_ble_eq_true rfl) (fun X hg hnl hX hR => ?_)
  subst hg
  have hX : Ctx X cX0_kindOf "TelegramFeelings$Bodies" 1 := hX
  unfold g_X0_kindOf at h
  show JW X B n 0 0 0 [(0, vR 53), (1, vI (a1))] [] (E S) (QM X (QcI (gX X) B n r (E S)))
  refine j_iload_n hX 1 dX0_kindOf_0 rfl rfl ?_
  refine j_if_lt hX (tgt := 27) dX0_kindOf_1 (by decide) (fun hc => ?_) (fun hc => ?_)
  · rw [if_pos hc] at h
    refine j_iconst hX dX0_kindOf_27 (rc rfl) ?_
    cases h
    exact j_iret hX hR dX0_kindOf_28
  · rw [if_neg hc] at h
    refine j_iload_n hX 1 dX0_kindOf_4 rfl rfl ?_
    refine j_aload_n hX 0 dX0_kindOf_5 rfl rfl ?_
    refine j_getI (k := 1) hX hE cbX0 ty53 pc53 (by decide) rfl wd384 rfl dX0_kindOf_6 ?_
    refine j_icmp_ge hX (tgt := 27) dX0_kindOf_9 (by decide) (fun hc => ?_) (fun hc => ?_)
    · rw [if_pos hc] at h
      refine j_iconst hX dX0_kindOf_27 (rc rfl) ?_
      cases h
      exact j_iret hX hR dX0_kindOf_28
    · rw [if_neg hc] at h
      refine j_iload_n hX 1 dX0_kindOf_12 rfl rfl ?_
      refine j_bipush hX dX0_kindOf_13 (rc rfl) (by decide) ?_
      refine j_icmp_ge hX (tgt := 27) dX0_kindOf_15 (by decide) (fun hc => ?_) (fun hc => ?_)
      · rw [if_pos hc] at h
        refine j_iconst hX dX0_kindOf_27 (rc rfl) ?_
        cases h
        exact j_iret hX hR dX0_kindOf_28
      · rw [if_neg hc] at h
        refine j_aload_n hX 0 dX0_kindOf_18 rfl rfl ?_
        refine j_getS (k := 0) hX hfl cbX0 ty53 (by decide) rfl wd383 rfl sb53_0 dX0_kindOf_19 ?_
        refine j_iload_n hX 1 dX0_kindOf_22 rfl rfl ?_
        obtain ⟨x1, hv, h⟩ := bs h
        refine j_iald hX hE ty54 pc54 hv dX0_kindOf_23 ?_
        refine j_goto hX (tgt := 28) dX0_kindOf_24 (by decide) ?_
        cases h
        exact j_iret hX hR dX0_kindOf_28
theorem s_X0_above {g : G0} {B : Nat → Nat} {n : Nat} {E : Mem → Mem} {a1 : Int} {S : Mem} {r : Int} (hfl : g.2.2.2.2 = true) (hE : Lens E PC) (h : g_X0_above a1 S = some r) : Cn g B n yX0_above cX0_above 1 (some .int) 1 [vI (a1)] (E S) (QcI g B n r (E S)) := by
  refine Cn.of (by decide +kernel) (Nat.le_of_ble_eq_true rfl) (fun X hg hnl hX hR => ?_)
  subst hg
  have hX : Ctx X cX0_above "TelegramFeelings$Bodies" 1 := hX
  unfold g_X0_above at h
  show JW X B n 0 0 0 [(0, vI (a1))] [] (E S) (QM X (QcI (gX X) B n r (E S)))
  refine j_iload_n hX 0 dX0_above_0 rfl rfl ?_
  refine j_if_lt hX (tgt := 18) dX0_above_1 (by decide) (fun hc => ?_) (fun hc => ?_)
  · rw [if_pos hc] at h
    refine j_iconst hX dX0_above_18 (rc rfl) ?_
    cases h
    exact j_iret hX hR dX0_above_19
  · rw [if_neg hc] at h
    refine j_iload_n hX 0 dX0_above_4 rfl rfl ?_
    refine j_bipush hX dX0_above_5 (rc rfl) (by decide) ?_
    refine j_icmp_ge hX (tgt := 18) dX0_above_7 (by decide) (fun hc => ?_) (fun hc => ?_)
    · rw [if_pos hc] at h
      refine j_iconst hX dX0_above_18 (rc rfl) ?_
      cases h
      exact j_iret hX hR dX0_above_19
    · rw [if_neg hc] at h
      refine j_gst hX (q := 2) (by decide) rfl wd1051 dX0_above_10 (fun t1 ht1 => ?_)
      refine j_iload_n hX 0 dX0_above_13 rfl rfl ?_
      obtain ⟨x2, hv, h⟩ := bs h
      refine j_ialdS hX (q := 2) (by decide) ht1 hv dX0_above_14 ?_
      refine j_goto hX (tgt := 19) dX0_above_15 (by decide) ?_
      cases h
      exact j_iret hX hR dX0_above_19
theorem sl_X0_isUnder_4 {X : K0} {B : Nat → Nat} {n : Nat} {E : Mem → Mem} {r : Int} (hX : Ctx X cX0_isUnder "TelegramFeelings$Bodies" 2) (hR : CR X (some .boolean)) (hfl : (gX X).2.2.2.2 = true) (hnl : X.2.2.2.2.2.2.2.2.2.2.2.2.2.2 = 4) (hE : Lens E PC)  {v1 : Int} {S : Mem}  : ∀ (fu : Nat) (v2 : Int) (v3 : Int), g_X0_isUnder_L4 v1 S fu v2 v3 = some r → JW X B n 0 0 4 [(1, vI (v1)), (2, vI (v2)), (3, vI (v3))] [] (E S) (QM X (QcI (gX X) B n r (E S))) := by
  intro fu
  induction fu with
  | zero =>
    intro v2 v3 h
    rw [g_X0_isUnder_L4] at h
    cases h
  | succ fu ih =>
    intro v2 v3 h
    rw [g_X0_isUnder_L4] at h
    refine j_iload_n hX 2 dX0_isUnder_4 rfl rfl ?_
    refine j_bipush hX dX0_isUnder_5 (rc rfl) (by decide) ?_
    refine j_icmp_ge hX (tgt := 32) dX0_isUnder_7 (by decide) (fun hc => ?_) (fun hc => ?_)
    · rw [if_pos hc] at h
      refine j_iconst hX dX0_isUnder_32 (rc rfl) ?_
      cases h
      exact j_zret hX hR (Or.inl rfl) dX0_isUnder_33
    · rw [if_neg hc] at h
      refine j_iload_n hX 1 dX0_isUnder_10 rfl rfl ?_
      refine j_if_lt hX (tgt := 32) dX0_isUnder_11 (by decide) (fun hc => ?_) (fun hc => ?_)
      · rw [if_pos hc] at h
        refine j_iconst hX dX0_isUnder_32 (rc rfl) ?_
        cases h
        exact j_zret hX hR (Or.inl rfl) dX0_isUnder_33
      · rw [if_neg hc] at h
        refine j_iload_n hX 1 dX0_isUnder_14 rfl rfl ?_
        refine j_iload_n hX 0 dX0_isUnder_15 rfl rfl ?_
        refine j_icmp_ne hX (tgt := 21) dX0_isUnder_16 (by decide) (fun hc => ?_) (fun hc => ?_)
        · rw [if_neg hc] at h
          refine j_iload_n hX 1 dX0_isUnder_21 rfl rfl ?_
          obtain ⟨x1, h1, h⟩ := bs h
          refine j_callSI hX mwX0_above msX0_above wd1048 hyX0_above (by omega) (by decide) ⟨Nat.zero_le _, Nat.zero_le _⟩ dX0_isUnder_22 (s_X0_above hfl hE h1) npX0_above rfl (Nat.le_of_ble_eq_true rfl) ?_
          refine j_istore_n (L' := [(2, vI (x1)), (1, vI (v1)), (3, vI (v3))]) hX dX0_isUnder_25 rfl hnl (by decide) rfl ?_
          refine j_iinc (L' := [(3, vI (w32 (v3 + 1))), (2, vI (x1)), (1, vI (v1))]) hX 2 dX0_isUnder_26 hnl (by decide) rfl rfl ?_
          refine j_goto hX (tgt := 4) dX0_isUnder_29 (by decide) ?_
          refine j_sub [2, 1, 0] rfl ?_
          exact ih _ _ h
        · rw [if_pos hc] at h
          refine j_iconst hX dX0_isUnder_19 (rc rfl) ?_
          cases h
          exact j_zret hX hR (Or.inr rfl) dX0_isUnder_20
theorem s_X0_isUnder {g : G0} {B : Nat → Nat} {n : Nat} {E : Mem → Mem} {a1 : Int} {a2 : Int} {S : Mem} {r : Int} (hfl : g.2.2.2.2 = true) (hE : Lens E PC) (h : g_X0_isUnder a1 a2 S = some r) : Cn g B n yX0_isUnder cX0_isUnder 4 (some .boolean) 2 [vI (a1), vI (a2)] (E S) (QcI g B n r (E S)) := by
  refine Cn.of (by decide +kernel) (Nat.le_of_ble_eq_true rfl) (fun X hg hnl hX hR => ?_)
  subst hg
  have hX : Ctx X cX0_isUnder "TelegramFeelings$Bodies" 2 := hX
  unfold g_X0_isUnder at h
  show JW X B n 0 0 0 [(0, vI (a1)), (1, vI (a2))] [] (E S) (QM X (QcI (gX X) B n r (E S)))
  refine j_iload_n hX 0 dX0_isUnder_0 rfl rfl ?_
  refine j_istore_n (L' := [(2, vI (a1)), (0, vI (a1)), (1, vI (a2))]) hX dX0_isUnder_1 rfl hnl (by decide) rfl ?_
  refine j_iconst hX dX0_isUnder_2 (rc rfl) ?_
  refine j_istore_n (L' := [(3, vI (0)), (2, vI (a1)), (0, vI (a1)), (1, vI (a2))]) hX dX0_isUnder_3 rfl hnl (by decide) rfl ?_
  refine j_sub [3, 1, 0] rfl ?_
  refine sl_X0_isUnder_4 hX hR hfl hnl hE  _ _ _ h
theorem s_X0_ranAt {g : G0} {B : Nat → Nat} {n : Nat} {E : Mem → Mem} {a1 : Int} {S : Mem} {r : Int} (hfl : g.2.2.2.2 = true) (hE : Lens E PC) (h : g_X0_ranAt a1 S = some r) : Cn g B n yX0_ranAt cX0_ranAt 2 (some .int) 1 [vR 53, vI (a1)] (E S) (QcI g B n r (E S)) := by
  refine Cn.of (by decide +kernel) (Nat.le_of_ble_eq_true rfl) (fun X hg hnl hX hR => ?_)
  subst hg
  have hX : Ctx X cX0_ranAt "TelegramFeelings$Bodies" 1 := hX
  unfold g_X0_ranAt at h
  show JW X B n 0 0 0 [(0, vR 53), (1, vI (a1))] [] (E S) (QM X (QcI (gX X) B n r (E S)))
  refine j_iload_n hX 1 dX0_ranAt_0 rfl rfl ?_
  refine j_if_lt hX (tgt := 27) dX0_ranAt_1 (by decide) (fun hc => ?_) (fun hc => ?_)
  · rw [if_pos hc] at h
    refine j_iconst hX dX0_ranAt_27 (rc rfl) ?_
    cases h
    exact j_iret hX hR dX0_ranAt_28
  · rw [if_neg hc] at h
    refine j_iload_n hX 1 dX0_ranAt_4 rfl rfl ?_
    refine j_aload_n hX 0 dX0_ranAt_5 rfl rfl ?_
    refine j_getI (k := 3) hX hE cbX0 ty53 pc53 (by decide) rfl wd387 rfl dX0_ranAt_6 ?_
    refine j_icmp_ge hX (tgt := 27) dX0_ranAt_9 (by decide) (fun hc => ?_) (fun hc => ?_)
    · rw [if_pos hc] at h
      refine j_iconst hX dX0_ranAt_27 (rc rfl) ?_
      cases h
      exact j_iret hX hR dX0_ranAt_28
    · rw [if_neg hc] at h
      refine j_iload_n hX 1 dX0_ranAt_12 rfl rfl ?_
      refine j_bipush hX dX0_ranAt_13 (rc rfl) (by decide) ?_
      refine j_icmp_ge hX (tgt := 27) dX0_ranAt_15 (by decide) (fun hc => ?_) (fun hc => ?_)
      · rw [if_pos hc] at h
        refine j_iconst hX dX0_ranAt_27 (rc rfl) ?_
        cases h
        exact j_iret hX hR dX0_ranAt_28
      · rw [if_neg hc] at h
        refine j_aload_n hX 0 dX0_ranAt_18 rfl rfl ?_
        refine j_getS (k := 2) hX hfl cbX0 ty53 (by decide) rfl wd386 rfl sb53_2 dX0_ranAt_19 ?_
        refine j_iload_n hX 1 dX0_ranAt_22 rfl rfl ?_
        obtain ⟨x1, hv, h⟩ := bs h
        refine j_iald hX hE ty55 pc55 hv dX0_ranAt_23 ?_
        refine j_goto hX (tgt := 28) dX0_ranAt_24 (by decide) ?_
        cases h
        exact j_iret hX hR dX0_ranAt_28
theorem s_X0_begins {g : G0} {B : Nat → Nat} {n : Nat} {E : Mem → Mem} {a1 : Int} {S : Mem} {S' : Mem} (hfl : g.2.2.2.2 = true) (hE : Lens E PC) (h : g_X0_begins a1 S = some S') : Cn g B n yX0_begins cX0_begins 2 none 1 [vR 53, vI (a1)] (E S) (QcV g B n (E S')) := by
  refine Cn.of (by decide +kernel) (Nat.le_of_ble_eq_true rfl) (fun X hg hnl hX hR => ?_)
  subst hg
  have hX : Ctx X cX0_begins "TelegramFeelings$Bodies" 1 := hX
  unfold g_X0_begins at h
  show JW X B n 0 0 0 [(0, vR 53), (1, vI (a1))] [] (E S) (QM X (QcV (gX X) B n (E S')))
  refine j_aload_n hX 0 dX0_begins_0 rfl rfl ?_
  refine j_getI (k := 3) hX hE cbX0 ty53 pc53 (by decide) rfl wd387 rfl dX0_begins_1 ?_
  refine j_if_lt hX (tgt := 26) dX0_begins_4 (by decide) (fun hc => ?_) (fun hc => ?_)
  · rw [if_pos hc] at h
    refine j_aload_n hX 0 dX0_begins_26 rfl rfl ?_
    refine j_dup hX dX0_begins_27 rfl ?_
    refine j_getI (k := 3) hX hE cbX0 ty53 pc53 (by decide) rfl wd387 rfl dX0_begins_28 ?_
    refine j_iconst hX dX0_begins_31 (rc rfl) ?_
    refine j_iadd hX dX0_begins_32 ?_
    refine j_putI (k := 3) hX hE cbX0 ty53 pc53 (by decide) rfl wd387 rfl (Or.inl rfl) rfl dX0_begins_33 ?_
    obtain ⟨S1, hx, h⟩ := ap_s h
    rw [← hx]
    clear hx
    cases h
    exact j_vret hX hR dX0_begins_36
  · rw [if_neg hc] at h
    refine j_aload_n hX 0 dX0_begins_7 rfl rfl ?_
    refine j_getI (k := 3) hX hE cbX0 ty53 pc53 (by decide) rfl wd387 rfl dX0_begins_8 ?_
    refine j_bipush hX dX0_begins_11 (rc rfl) (by decide) ?_
    refine j_icmp_ge hX (tgt := 26) dX0_begins_13 (by decide) (fun hc => ?_) (fun hc => ?_)
    · rw [if_pos hc] at h
      refine j_aload_n hX 0 dX0_begins_26 rfl rfl ?_
      refine j_dup hX dX0_begins_27 rfl ?_
      refine j_getI (k := 3) hX hE cbX0 ty53 pc53 (by decide) rfl wd387 rfl dX0_begins_28 ?_
      refine j_iconst hX dX0_begins_31 (rc rfl) ?_
      refine j_iadd hX dX0_begins_32 ?_
      refine j_putI (k := 3) hX hE cbX0 ty53 pc53 (by decide) rfl wd387 rfl (Or.inl rfl) rfl dX0_begins_33 ?_
      obtain ⟨S2, hx, h⟩ := ap_s h
      rw [← hx]
      clear hx
      cases h
      exact j_vret hX hR dX0_begins_36
    · rw [if_neg hc] at h
      refine j_aload_n hX 0 dX0_begins_16 rfl rfl ?_
      refine j_getS (k := 2) hX hfl cbX0 ty53 (by decide) rfl wd386 rfl sb53_2 dX0_begins_17 ?_
      refine j_aload_n hX 0 dX0_begins_20 rfl rfl ?_
      refine j_getI (k := 3) hX hE cbX0 ty53 pc53 (by decide) rfl wd387 rfl dX0_begins_21 ?_
      refine j_iload_n hX 1 dX0_begins_24 rfl rfl ?_
      obtain ⟨S3, hv, h⟩ := bs h
      refine j_iast hX hE ty55 pc55 hv dX0_begins_25 ?_
      refine j_aload_n hX 0 dX0_begins_26 rfl rfl ?_
      refine j_dup hX dX0_begins_27 rfl ?_
      refine j_getI (k := 3) hX hE cbX0 ty53 pc53 (by decide) rfl wd387 rfl dX0_begins_28 ?_
      refine j_iconst hX dX0_begins_31 (rc rfl) ?_
      refine j_iadd hX dX0_begins_32 ?_
      refine j_putI (k := 3) hX hE cbX0 ty53 pc53 (by decide) rfl wd387 rfl (Or.inl rfl) rfl dX0_begins_33 ?_
      obtain ⟨S4, hx, h⟩ := ap_s h
      rw [← hx]
      clear hx
      cases h
      exact j_vret hX hR dX0_begins_36
theorem s_X0_says_B {g : G0} {B : Nat → Nat} {n : Nat} {E : Mem → Mem} {a1 : Int} {a2 : Int} {S : Mem} {r : Int} {S' : Mem} (hfl : g.2.2.2.2 = true) {rO : Int → Int → Mem → Option (Int × Mem)} {dd : Nat} (hdd : 6 ≤ dd) (hE : Lens E PC) (hO : ∀ (a1 : Int) (a2 : Int) (S : Mem) (r : Int) (S1 : Mem), rO a1 a2 S = some (r, S1) → Cn g B n yX0_says cX0_says 3 (some .int) dd [vR 53, vI (a1), vI (a2)] (E S) (QcI g B n r (E S1))) (h : g_X0_says_B rO a1 a2 S = some (r, S')) : Cn g B n yX0_says cX0_says 3 (some .int) (dd + 1) [vR 53, vI (a1), vI (a2)] (E S) (QcI g B n r (E S')) := by
  refine Cn.of (by decide +kernel) (Nat.le_of_ble_eq_true rfl) (fun X hg hnl hX hR => ?_)
  subst hg
  have hX : Ctx X cX0_says "TelegramFeelings$Bodies" (dd + 1) := hX
  unfold g_X0_says_B at h
  show JW X B n 0 0 0 [(0, vR 53), (1, vI (a1)), (2, vI (a2))] [] (E S) (QM X (QcI (gX X) B n r (E S')))
  refine j_iload_n hX 1 dX0_says_0 rfl rfl ?_
  by_cases hc0 : a1 = 0
  · rw [if_pos hc0] at h
    refine j_tin hX (tgt := 48) dX0_says_1 hc0 (by decide) (by decide) rfl (by decide) ?_
    refine j_aload_n hX 0 dX0_says_48 rfl rfl ?_
    refine j_iconst hX dX0_says_49 (rc rfl) ?_
    obtain ⟨S1, h1, h⟩ := bs h
    refine j_callVV hX mwX0_begins miX0_begins wd1044 cbX0 ty53 hyX0_begins (by omega) (by decide) ⟨Nat.zero_le _, Nat.zero_le _⟩ dX0_says_50 (s_X0_begins hfl hE h1) npX0_begins rfl (Nat.le_of_ble_eq_true rfl) ?_
    refine j_iload_n hX 2 dX0_says_53 rfl rfl ?_
    refine j_aload_n hX 0 dX0_says_54 rfl rfl ?_
    refine j_getI (k := 4) hX hE cbX0 ty53 pc53 (by decide) rfl wd389 rfl dX0_says_55 ?_
    refine j_iadd hX dX0_says_58 ?_
    cases h
    exact j_iret hX hR dX0_says_59
  · rw [if_neg hc0] at h
    by_cases hc1 : a1 = 1
    · rw [if_pos hc1] at h
      refine j_tin hX (tgt := 60) dX0_says_1 hc1 (by decide) (by decide) rfl (by decide) ?_
      refine j_aload_n hX 0 dX0_says_60 rfl rfl ?_
      refine j_bipush hX dX0_says_61 (rc rfl) (by decide) ?_
      obtain ⟨S2, h1, h⟩ := bs h
      refine j_callVV hX mwX0_begins miX0_begins wd1044 cbX0 ty53 hyX0_begins (by omega) (by decide) ⟨Nat.zero_le _, Nat.zero_le _⟩ dX0_says_63 (s_X0_begins hfl hE h1) npX0_begins rfl (Nat.le_of_ble_eq_true rfl) ?_
      refine j_aload_n hX 0 dX0_says_66 rfl rfl ?_
      refine j_iload_n hX 1 dX0_says_67 rfl rfl ?_
      obtain ⟨x3, h1, h⟩ := bs h
      refine j_callSI hX mwX0_above msX0_above wd1048 hyX0_above (by omega) (by decide) ⟨Nat.zero_le _, Nat.zero_le _⟩ dX0_says_68 (s_X0_above hfl hE h1) npX0_above rfl (Nat.le_of_ble_eq_true rfl) ?_
      refine j_iload_n hX 2 dX0_says_71 rfl rfl ?_
      obtain ⟨x5, S4, h1, h⟩ := bd2_s h
      refine j_callVI hX mwX0_says miX0_says wd1040 cbX0 ty53 hyX0_says (by omega) (by decide) ⟨Nat.zero_le _, Nat.zero_le _⟩ dX0_says_72 (hO _ _ _ _ _ h1) npX0_says rfl (Nat.le_of_ble_eq_true rfl) ?_
      refine j_iconst hX dX0_says_75 (rc rfl) ?_
      refine j_iadd hX dX0_says_76 ?_
      cases h
      exact j_iret hX hR dX0_says_77
    · rw [if_neg hc1] at h
      by_cases hc2 : a1 = 2
      · rw [if_pos hc2] at h
        refine j_tin hX (tgt := 114) dX0_says_1 hc2 (by decide) (by decide) rfl (by decide) ?_
        refine j_iload_n hX 1 dX0_says_114 rfl rfl ?_
        refine j_if_ge hX (tgt := 122) dX0_says_115 (by decide) (fun hc => ?_) (fun hc => ?_)
        · rw [if_pos hc] at h
          refine j_aload_n hX 0 dX0_says_122 rfl rfl ?_
          refine j_iload_n hX 1 dX0_says_123 rfl rfl ?_
          obtain ⟨x6, h1, h⟩ := bs h
          refine j_callSI hX mwX0_above msX0_above wd1048 hyX0_above (by omega) (by decide) ⟨Nat.zero_le _, Nat.zero_le _⟩ dX0_says_124 (s_X0_above hfl hE h1) npX0_above rfl (Nat.le_of_ble_eq_true rfl) ?_
          refine j_iload_n hX 2 dX0_says_127 rfl rfl ?_
          obtain ⟨x8, S7, h1, h⟩ := bd2_s h
          refine j_callVI hX mwX0_says miX0_says wd1040 cbX0 ty53 hyX0_says (by omega) (by decide) ⟨Nat.zero_le _, Nat.zero_le _⟩ dX0_says_128 (hO _ _ _ _ _ h1) npX0_says rfl (Nat.le_of_ble_eq_true rfl) ?_
          cases h
          exact j_iret hX hR dX0_says_131
        · rw [if_neg hc] at h
          refine j_iconst hX dX0_says_118 (rc rfl) ?_
          refine j_goto hX (tgt := 131) dX0_says_119 (by decide) ?_
          cases h
          exact j_iret hX hR dX0_says_131
      · rw [if_neg hc2] at h
        by_cases hc3 : a1 = 3
        · rw [if_pos hc3] at h
          refine j_tin hX (tgt := 114) dX0_says_1 hc3 (by decide) (by decide) rfl (by decide) ?_
          refine j_iload_n hX 1 dX0_says_114 rfl rfl ?_
          refine j_if_ge hX (tgt := 122) dX0_says_115 (by decide) (fun hc => ?_) (fun hc => ?_)
          · rw [if_pos hc] at h
            refine j_aload_n hX 0 dX0_says_122 rfl rfl ?_
            refine j_iload_n hX 1 dX0_says_123 rfl rfl ?_
            obtain ⟨x9, h1, h⟩ := bs h
            refine j_callSI hX mwX0_above msX0_above wd1048 hyX0_above (by omega) (by decide) ⟨Nat.zero_le _, Nat.zero_le _⟩ dX0_says_124 (s_X0_above hfl hE h1) npX0_above rfl (Nat.le_of_ble_eq_true rfl) ?_
            refine j_iload_n hX 2 dX0_says_127 rfl rfl ?_
            obtain ⟨x11, S10, h1, h⟩ := bd2_s h
            refine j_callVI hX mwX0_says miX0_says wd1040 cbX0 ty53 hyX0_says (by omega) (by decide) ⟨Nat.zero_le _, Nat.zero_le _⟩ dX0_says_128 (hO _ _ _ _ _ h1) npX0_says rfl (Nat.le_of_ble_eq_true rfl) ?_
            cases h
            exact j_iret hX hR dX0_says_131
          · rw [if_neg hc] at h
            refine j_iconst hX dX0_says_118 (rc rfl) ?_
            refine j_goto hX (tgt := 131) dX0_says_119 (by decide) ?_
            cases h
            exact j_iret hX hR dX0_says_131
        · rw [if_neg hc3] at h
          by_cases hc4 : a1 = 4
          · rw [if_pos hc4] at h
            refine j_tin hX (tgt := 114) dX0_says_1 hc4 (by decide) (by decide) rfl (by decide) ?_
            refine j_iload_n hX 1 dX0_says_114 rfl rfl ?_
            refine j_if_ge hX (tgt := 122) dX0_says_115 (by decide) (fun hc => ?_) (fun hc => ?_)
            · rw [if_pos hc] at h
              refine j_aload_n hX 0 dX0_says_122 rfl rfl ?_
              refine j_iload_n hX 1 dX0_says_123 rfl rfl ?_
              obtain ⟨x12, h1, h⟩ := bs h
              refine j_callSI hX mwX0_above msX0_above wd1048 hyX0_above (by omega) (by decide) ⟨Nat.zero_le _, Nat.zero_le _⟩ dX0_says_124 (s_X0_above hfl hE h1) npX0_above rfl (Nat.le_of_ble_eq_true rfl) ?_
              refine j_iload_n hX 2 dX0_says_127 rfl rfl ?_
              obtain ⟨x14, S13, h1, h⟩ := bd2_s h
              refine j_callVI hX mwX0_says miX0_says wd1040 cbX0 ty53 hyX0_says (by omega) (by decide) ⟨Nat.zero_le _, Nat.zero_le _⟩ dX0_says_128 (hO _ _ _ _ _ h1) npX0_says rfl (Nat.le_of_ble_eq_true rfl) ?_
              cases h
              exact j_iret hX hR dX0_says_131
            · rw [if_neg hc] at h
              refine j_iconst hX dX0_says_118 (rc rfl) ?_
              refine j_goto hX (tgt := 131) dX0_says_119 (by decide) ?_
              cases h
              exact j_iret hX hR dX0_says_131
          · rw [if_neg hc4] at h
            by_cases hc5 : a1 = 5
            · rw [if_pos hc5] at h
              refine j_tin hX (tgt := 114) dX0_says_1 hc5 (by decide) (by decide) rfl (by decide) ?_
              refine j_iload_n hX 1 dX0_says_114 rfl rfl ?_
              refine j_if_ge hX (tgt := 122) dX0_says_115 (by decide) (fun hc => ?_) (fun hc => ?_)
              · rw [if_pos hc] at h
                refine j_aload_n hX 0 dX0_says_122 rfl rfl ?_
                refine j_iload_n hX 1 dX0_says_123 rfl rfl ?_
                obtain ⟨x15, h1, h⟩ := bs h
                refine j_callSI hX mwX0_above msX0_above wd1048 hyX0_above (by omega) (by decide) ⟨Nat.zero_le _, Nat.zero_le _⟩ dX0_says_124 (s_X0_above hfl hE h1) npX0_above rfl (Nat.le_of_ble_eq_true rfl) ?_
                refine j_iload_n hX 2 dX0_says_127 rfl rfl ?_
                obtain ⟨x17, S16, h1, h⟩ := bd2_s h
                refine j_callVI hX mwX0_says miX0_says wd1040 cbX0 ty53 hyX0_says (by omega) (by decide) ⟨Nat.zero_le _, Nat.zero_le _⟩ dX0_says_128 (hO _ _ _ _ _ h1) npX0_says rfl (Nat.le_of_ble_eq_true rfl) ?_
                cases h
                exact j_iret hX hR dX0_says_131
              · rw [if_neg hc] at h
                refine j_iconst hX dX0_says_118 (rc rfl) ?_
                refine j_goto hX (tgt := 131) dX0_says_119 (by decide) ?_
                cases h
                exact j_iret hX hR dX0_says_131
            · rw [if_neg hc5] at h
              by_cases hc6 : a1 = 6
              · rw [if_pos hc6] at h
                refine j_tin hX (tgt := 78) dX0_says_1 hc6 (by decide) (by decide) rfl (by decide) ?_
                refine j_aload_n hX 0 dX0_says_78 rfl rfl ?_
                refine j_bipush hX dX0_says_79 (rc rfl) (by decide) ?_
                obtain ⟨S18, h1, h⟩ := bs h
                refine j_callVV hX mwX0_begins miX0_begins wd1044 cbX0 ty53 hyX0_begins (by omega) (by decide) ⟨Nat.zero_le _, Nat.zero_le _⟩ dX0_says_81 (s_X0_begins hfl hE h1) npX0_begins rfl (Nat.le_of_ble_eq_true rfl) ?_
                refine j_aload_n hX 0 dX0_says_84 rfl rfl ?_
                refine j_iload_n hX 1 dX0_says_85 rfl rfl ?_
                obtain ⟨x19, h1, h⟩ := bs h
                refine j_callSI hX mwX0_above msX0_above wd1048 hyX0_above (by omega) (by decide) ⟨Nat.zero_le _, Nat.zero_le _⟩ dX0_says_86 (s_X0_above hfl hE h1) npX0_above rfl (Nat.le_of_ble_eq_true rfl) ?_
                refine j_iload_n hX 2 dX0_says_89 rfl rfl ?_
                obtain ⟨x21, S20, h1, h⟩ := bd2_s h
                refine j_callVI hX mwX0_says miX0_says wd1040 cbX0 ty53 hyX0_says (by omega) (by decide) ⟨Nat.zero_le _, Nat.zero_le _⟩ dX0_says_90 (hO _ _ _ _ _ h1) npX0_says rfl (Nat.le_of_ble_eq_true rfl) ?_
                refine j_iconst hX dX0_says_93 (rc rfl) ?_
                refine j_imul hX dX0_says_94 ?_
                cases h
                exact j_iret hX hR dX0_says_95
              · rw [if_neg hc6] at h
                by_cases hc7 : a1 = 7
                · rw [if_pos hc7] at h
                  refine j_tin hX (tgt := 96) dX0_says_1 hc7 (by decide) (by decide) rfl (by decide) ?_
                  refine j_aload_n hX 0 dX0_says_96 rfl rfl ?_
                  refine j_bipush hX dX0_says_97 (rc rfl) (by decide) ?_
                  obtain ⟨S22, h1, h⟩ := bs h
                  refine j_callVV hX mwX0_begins miX0_begins wd1044 cbX0 ty53 hyX0_begins (by omega) (by decide) ⟨Nat.zero_le _, Nat.zero_le _⟩ dX0_says_99 (s_X0_begins hfl hE h1) npX0_begins rfl (Nat.le_of_ble_eq_true rfl) ?_
                  refine j_aload_n hX 0 dX0_says_102 rfl rfl ?_
                  refine j_iload_n hX 1 dX0_says_103 rfl rfl ?_
                  obtain ⟨x23, h1, h⟩ := bs h
                  refine j_callSI hX mwX0_above msX0_above wd1048 hyX0_above (by omega) (by decide) ⟨Nat.zero_le _, Nat.zero_le _⟩ dX0_says_104 (s_X0_above hfl hE h1) npX0_above rfl (Nat.le_of_ble_eq_true rfl) ?_
                  refine j_iload_n hX 2 dX0_says_107 rfl rfl ?_
                  obtain ⟨x25, S24, h1, h⟩ := bd2_s h
                  refine j_callVI hX mwX0_says miX0_says wd1040 cbX0 ty53 hyX0_says (by omega) (by decide) ⟨Nat.zero_le _, Nat.zero_le _⟩ dX0_says_108 (hO _ _ _ _ _ h1) npX0_says rfl (Nat.le_of_ble_eq_true rfl) ?_
                  refine j_iconst hX dX0_says_111 (rc rfl) ?_
                  refine j_isub hX dX0_says_112 ?_
                  cases h
                  exact j_iret hX hR dX0_says_113
                · rw [if_neg hc7] at h
                  refine j_tout hX (tgt := 114) dX0_says_1 (by omega) (by decide) ?_
                  refine j_iload_n hX 1 dX0_says_114 rfl rfl ?_
                  refine j_if_ge hX (tgt := 122) dX0_says_115 (by decide) (fun hc => ?_) (fun hc => ?_)
                  · rw [if_pos hc] at h
                    refine j_aload_n hX 0 dX0_says_122 rfl rfl ?_
                    refine j_iload_n hX 1 dX0_says_123 rfl rfl ?_
                    obtain ⟨x26, h1, h⟩ := bs h
                    refine j_callSI hX mwX0_above msX0_above wd1048 hyX0_above (by omega) (by decide) ⟨Nat.zero_le _, Nat.zero_le _⟩ dX0_says_124 (s_X0_above hfl hE h1) npX0_above rfl (Nat.le_of_ble_eq_true rfl) ?_
                    refine j_iload_n hX 2 dX0_says_127 rfl rfl ?_
                    obtain ⟨x28, S27, h1, h⟩ := bd2_s h
                    refine j_callVI hX mwX0_says miX0_says wd1040 cbX0 ty53 hyX0_says (by omega) (by decide) ⟨Nat.zero_le _, Nat.zero_le _⟩ dX0_says_128 (hO _ _ _ _ _ h1) npX0_says rfl (Nat.le_of_ble_eq_true rfl) ?_
                    cases h
                    exact j_iret hX hR dX0_says_131
                  · rw [if_neg hc] at h
                    refine j_iconst hX dX0_says_118 (rc rfl) ?_
                    refine j_goto hX (tgt := 131) dX0_says_119 (by decide) ?_
                    cases h
                    exact j_iret hX hR dX0_says_131
theorem s_X0_says_R {g : G0} {B : Nat → Nat} {n : Nat} {E : Mem → Mem} (hfl : g.2.2.2.2 = true) (hE : Lens E PC) : ∀ (fu : Nat) (a1 : Int) (a2 : Int) (S : Mem) (r : Int) (S1 : Mem), g_X0_says fu a1 a2 S = some (r, S1) → Cn g B n yX0_says cX0_says 3 (some .int) (6 + 1 * fu) [vR 53, vI (a1), vI (a2)] (E S) (QcI g B n r (E S1)) := by
  intro fu
  induction fu with
  | zero => intro a1 a2 S r S1 h; cases h
  | succ fu ih =>
    intro a1 a2 S r S1 h
    exact s_X0_says_B (dd := 6 + 1 * fu) hfl (by omega) hE ih h
theorem s_X0_says {g : G0} {B : Nat → Nat} {n : Nat} {E : Mem → Mem} {a1 : Int} {a2 : Int} {S : Mem} {r : Int} {S' : Mem} (hfl : g.2.2.2.2 = true) (hE : Lens E PC) (h : g_X0_says 10 a1 a2 S = some (r, S')) : Cn g B n yX0_says cX0_says 3 (some .int) 16 [vR 53, vI (a1), vI (a2)] (E S) (QcI g B n r (E S')) := s_X0_says_R hfl hE 10 _ _ _ _ _ h
theorem s_X0_errs_B {g : G0} {B : Nat → Nat} {n : Nat} {E : Mem → Mem} {a1 : Int} {a2 : Int} {S : Mem} {r : Int} {S' : Mem} (hfl : g.2.2.2.2 = true) {rO : Int → Int → Mem → Option (Int × Mem)} {dd : Nat} (hdd : 16 ≤ dd) (hE : Lens E PC) (hO : ∀ (a1 : Int) (a2 : Int) (S : Mem) (r : Int) (S1 : Mem), rO a1 a2 S = some (r, S1) → Cn g B n yX0_errs cX0_errs 4 (some .int) dd [vR 53, vI (a1), vI (a2)] (E S) (QcI g B n r (E S1))) (h : g_X0_errs_B rO a1 a2 S = some (r, S')) : Cn g B n yX0_errs cX0_errs 4 (some .int) (dd + 1) [vR 53, vI (a1), vI (a2)] (E S) (QcI g B n r (E S')) := by
  refine Cn.of (by decide +kernel) (Nat.le_of_ble_eq_true rfl) (fun X hg hnl hX hR => ?_)
  subst hg
  have hX : Ctx X cX0_errs "TelegramFeelings$Bodies" (dd + 1) := hX
  unfold g_X0_errs_B at h
  show JW X B n 0 0 0 [(0, vR 53), (1, vI (a1)), (2, vI (a2))] [] (E S) (QM X (QcI (gX X) B n r (E S')))
  refine j_iload_n hX 1 dX0_errs_0 rfl rfl ?_
  by_cases hc0 : a1 = 0
  · rw [if_pos hc0] at h
    refine j_lsw (off := 35) hX (tgt := 36) dX0_errs_1 (by decide) (by rw [hc0]; decide) (by decide) ?_
    refine j_aload_n hX 0 dX0_errs_36 rfl rfl ?_
    refine j_bipush hX dX0_errs_37 (rc rfl) (by decide) ?_
    obtain ⟨S1, h1, h⟩ := bs h
    refine j_callVV hX mwX0_begins miX0_begins wd1044 cbX0 ty53 hyX0_begins (by omega) (by decide) ⟨Nat.zero_le _, Nat.zero_le _⟩ dX0_errs_39 (s_X0_begins hfl hE h1) npX0_begins rfl (Nat.le_of_ble_eq_true rfl) ?_
    refine j_iload_n hX 2 dX0_errs_42 rfl rfl ?_
    refine j_aload_n hX 0 dX0_errs_43 rfl rfl ?_
    refine j_getI (k := 4) hX hE cbX0 ty53 pc53 (by decide) rfl wd389 rfl dX0_errs_44 ?_
    refine j_ixor hX dX0_errs_47 ?_
    cases h
    exact j_iret hX hR dX0_errs_48
  · rw [if_neg hc0] at h
    by_cases hc1 : a1 = 3
    · rw [if_pos hc1] at h
      refine j_lsw (off := 48) hX (tgt := 49) dX0_errs_1 (by decide) (by rw [hc1]; decide) (by decide) ?_
      refine j_aload_n hX 0 dX0_errs_49 rfl rfl ?_
      refine j_bipush hX dX0_errs_50 (rc rfl) (by decide) ?_
      obtain ⟨S2, h1, h⟩ := bs h
      refine j_callVV hX mwX0_begins miX0_begins wd1044 cbX0 ty53 hyX0_begins (by omega) (by decide) ⟨Nat.zero_le _, Nat.zero_le _⟩ dX0_errs_52 (s_X0_begins hfl hE h1) npX0_begins rfl (Nat.le_of_ble_eq_true rfl) ?_
      refine j_aload_n hX 0 dX0_errs_55 rfl rfl ?_
      refine j_iload_n hX 1 dX0_errs_56 rfl rfl ?_
      obtain ⟨x3, h1, h⟩ := bs h
      refine j_callSI hX mwX0_above msX0_above wd1048 hyX0_above (by omega) (by decide) ⟨Nat.zero_le _, Nat.zero_le _⟩ dX0_errs_57 (s_X0_above hfl hE h1) npX0_above rfl (Nat.le_of_ble_eq_true rfl) ?_
      refine j_iload_n hX 2 dX0_errs_60 rfl rfl ?_
      obtain ⟨x5, S4, h1, h⟩ := bd2_s h
      refine j_callVI hX mwX0_errs miX0_errs wd1057 cbX0 ty53 hyX0_errs (by omega) (by decide) ⟨Nat.zero_le _, Nat.zero_le _⟩ dX0_errs_61 (hO _ _ _ _ _ h1) npX0_errs rfl (Nat.le_of_ble_eq_true rfl) ?_
      refine j_iconst hX dX0_errs_64 (rc rfl) ?_
      refine j_imul hX dX0_errs_65 ?_
      cases h
      exact j_iret hX hR dX0_errs_66
    · rw [if_neg hc1] at h
      by_cases hc2 : a1 = 5
      · rw [if_pos hc2] at h
        refine j_lsw (off := 66) hX (tgt := 67) dX0_errs_1 (by decide) (by rw [hc2]; decide) (by decide) ?_
        refine j_aload_n hX 0 dX0_errs_67 rfl rfl ?_
        refine j_bipush hX dX0_errs_68 (rc rfl) (by decide) ?_
        obtain ⟨S6, h1, h⟩ := bs h
        refine j_callVV hX mwX0_begins miX0_begins wd1044 cbX0 ty53 hyX0_begins (by omega) (by decide) ⟨Nat.zero_le _, Nat.zero_le _⟩ dX0_errs_70 (s_X0_begins hfl hE h1) npX0_begins rfl (Nat.le_of_ble_eq_true rfl) ?_
        refine j_aload_n hX 0 dX0_errs_73 rfl rfl ?_
        refine j_iload_n hX 1 dX0_errs_74 rfl rfl ?_
        obtain ⟨x7, h1, h⟩ := bs h
        refine j_callSI hX mwX0_above msX0_above wd1048 hyX0_above (by omega) (by decide) ⟨Nat.zero_le _, Nat.zero_le _⟩ dX0_errs_75 (s_X0_above hfl hE h1) npX0_above rfl (Nat.le_of_ble_eq_true rfl) ?_
        refine j_iload_n hX 2 dX0_errs_78 rfl rfl ?_
        obtain ⟨x9, S8, h1, h⟩ := bd2_s h
        refine j_callVI hX mwX0_errs miX0_errs wd1057 cbX0 ty53 hyX0_errs (by omega) (by decide) ⟨Nat.zero_le _, Nat.zero_le _⟩ dX0_errs_79 (hO _ _ _ _ _ h1) npX0_errs rfl (Nat.le_of_ble_eq_true rfl) ?_
        refine j_istore_n (L' := [(3, vI (x9)), (0, vR 53), (1, vI (a1)), (2, vI (a2))]) hX dX0_errs_82 rfl hnl (by decide) rfl ?_
        refine j_iload_n hX 0 dX0_errs_83 rfl rfl ?_
        refine j_aload_n hX 1 dX0_errs_84 rfl rfl ?_
        refine j_aload_n hX 1 dX0_errs_85 rfl rfl ?_
        refine j_getI (k := 5) hX hE cbX0 ty53 pc53 (by decide) rfl wd390 rfl dX0_errs_86 ?_
        refine j_iconst hX dX0_errs_89 (rc rfl) ?_
        obtain ⟨x11, S10, h1, h⟩ := bd2_s h
        refine j_callVI hX mwX0_says miX0_says wd1040 cbX0 ty53 hyX0_says (by omega) (by decide) ⟨Nat.zero_le _, Nat.zero_le _⟩ dX0_errs_90 (s_X0_says hfl hE h1) npX0_says rfl (Nat.le_of_ble_eq_true rfl) ?_
        refine j_isub hX dX0_errs_93 ?_
        cases h
        exact j_iret hX hR dX0_errs_94
      · rw [if_neg hc2] at h
        refine j_lsw (off := 94) hX (tgt := 95) dX0_errs_1 (by decide) (lk_none (by simp [hc0, Ne.symm hc0, hc1, Ne.symm hc1, hc2, Ne.symm hc2])) (by decide) ?_
        refine j_iload_n hX 1 dX0_errs_95 rfl rfl ?_
        refine j_if_ge hX (tgt := 103) dX0_errs_96 (by decide) (fun hc => ?_) (fun hc => ?_)
        · rw [if_pos hc] at h
          refine j_aload_n hX 0 dX0_errs_103 rfl rfl ?_
          refine j_iload_n hX 1 dX0_errs_104 rfl rfl ?_
          obtain ⟨x12, h1, h⟩ := bs h
          refine j_callSI hX mwX0_above msX0_above wd1048 hyX0_above (by omega) (by decide) ⟨Nat.zero_le _, Nat.zero_le _⟩ dX0_errs_105 (s_X0_above hfl hE h1) npX0_above rfl (Nat.le_of_ble_eq_true rfl) ?_
          refine j_iload_n hX 2 dX0_errs_108 rfl rfl ?_
          obtain ⟨x14, S13, h1, h⟩ := bd2_s h
          refine j_callVI hX mwX0_errs miX0_errs wd1057 cbX0 ty53 hyX0_errs (by omega) (by decide) ⟨Nat.zero_le _, Nat.zero_le _⟩ dX0_errs_109 (hO _ _ _ _ _ h1) npX0_errs rfl (Nat.le_of_ble_eq_true rfl) ?_
          cases h
          exact j_iret hX hR dX0_errs_112
        · rw [if_neg hc] at h
          refine j_iconst hX dX0_errs_99 (rc rfl) ?_
          refine j_goto hX (tgt := 112) dX0_errs_100 (by decide) ?_
          cases h
          exact j_iret hX hR dX0_errs_112
theorem s_X0_errs_R {g : G0} {B : Nat → Nat} {n : Nat} {E : Mem → Mem} (hfl : g.2.2.2.2 = true) (hE : Lens E PC) : ∀ (fu : Nat) (a1 : Int) (a2 : Int) (S : Mem) (r : Int) (S1 : Mem), g_X0_errs fu a1 a2 S = some (r, S1) → Cn g B n yX0_errs cX0_errs 4 (some .int) (16 + 1 * fu) [vR 53, vI (a1), vI (a2)] (E S) (QcI g B n r (E S1)) := by
  intro fu
  induction fu with
  | zero => intro a1 a2 S r S1 h; cases h
  | succ fu ih =>
    intro a1 a2 S r S1 h
    exact s_X0_errs_B (dd := 16 + 1 * fu) hfl (by omega) hE ih h
theorem s_X0_errs {g : G0} {B : Nat → Nat} {n : Nat} {E : Mem → Mem} {a1 : Int} {a2 : Int} {S : Mem} {r : Int} {S' : Mem} (hfl : g.2.2.2.2 = true) (hE : Lens E PC) (h : g_X0_errs 10 a1 a2 S = some (r, S')) : Cn g B n yX0_errs cX0_errs 4 (some .int) 26 [vR 53, vI (a1), vI (a2)] (E S) (QcI g B n r (E S')) := s_X0_errs_R hfl hE 10 _ _ _ _ _ h
theorem s_X0_costs_B {g : G0} {B : Nat → Nat} {n : Nat} {E : Mem → Mem} {a1 : Int} {a2 : Int} {S : Mem} {r : Int} {S' : Mem} (hfl : g.2.2.2.2 = true) {rO : Int → Int → Mem → Option (Int × Mem)} {dd : Nat} (hdd : 26 ≤ dd) (hE : Lens E PC) (hO : ∀ (a1 : Int) (a2 : Int) (S : Mem) (r : Int) (S1 : Mem), rO a1 a2 S = some (r, S1) → Cn g B n yX0_costs cX0_costs 4 (some .int) dd [vR 53, vI (a1), vI (a2)] (E S) (QcI g B n r (E S1))) (h : g_X0_costs_B rO a1 a2 S = some (r, S')) : Cn g B n yX0_costs cX0_costs 4 (some .int) (dd + 1) [vR 53, vI (a1), vI (a2)] (E S) (QcI g B n r (E S')) := by
  refine Cn.of (by decide +kernel) (Nat.le_of_ble_eq_true rfl) (fun X hg hnl hX hR => ?_)
  subst hg
  have hX : Ctx X cX0_costs "TelegramFeelings$Bodies" (dd + 1) := hX
  unfold g_X0_costs_B at h
  show JW X B n 0 0 0 [(0, vR 53), (1, vI (a1)), (2, vI (a2))] [] (E S) (QM X (QcI (gX X) B n r (E S')))
  refine j_iload_n hX 1 dX0_costs_0 rfl rfl ?_
  by_cases hc0 : a1 = 0
  · rw [if_pos hc0] at h
    refine j_tin hX (tgt := 48) dX0_costs_1 hc0 (by decide) (by decide) rfl (by decide) ?_
    refine j_aload_n hX 0 dX0_costs_48 rfl rfl ?_
    refine j_bipush hX dX0_costs_49 (rc rfl) (by decide) ?_
    obtain ⟨S1, h1, h⟩ := bs h
    refine j_callVV hX mwX0_begins miX0_begins wd1044 cbX0 ty53 hyX0_begins (by omega) (by decide) ⟨Nat.zero_le _, Nat.zero_le _⟩ dX0_costs_51 (s_X0_begins hfl hE h1) npX0_begins rfl (Nat.le_of_ble_eq_true rfl) ?_
    refine j_aload_n hX 0 dX0_costs_54 rfl rfl ?_
    refine j_aload_n hX 0 dX0_costs_55 rfl rfl ?_
    refine j_getI (k := 5) hX hE cbX0 ty53 pc53 (by decide) rfl wd390 rfl dX0_costs_56 ?_
    refine j_iload_n hX 2 dX0_costs_59 rfl rfl ?_
    obtain ⟨x3, S2, h1, h⟩ := bd2_s h
    refine j_callVI hX mwX0_says miX0_says wd1040 cbX0 ty53 hyX0_says (by omega) (by decide) ⟨Nat.zero_le _, Nat.zero_le _⟩ dX0_costs_60 (s_X0_says hfl hE h1) npX0_says rfl (Nat.le_of_ble_eq_true rfl) ?_
    refine j_iconst hX dX0_costs_63 (rc rfl) ?_
    refine j_imul hX dX0_costs_64 ?_
    cases h
    exact j_iret hX hR dX0_costs_65
  · rw [if_neg hc0] at h
    by_cases hc1 : a1 = 1
    · rw [if_pos hc1] at h
      refine j_tin hX (tgt := 129) dX0_costs_1 hc1 (by decide) (by decide) rfl (by decide) ?_
      refine j_iload_n hX 1 dX0_costs_129 rfl rfl ?_
      refine j_if_ge hX (tgt := 137) dX0_costs_130 (by decide) (fun hc => ?_) (fun hc => ?_)
      · rw [if_pos hc] at h
        refine j_aload_n hX 0 dX0_costs_137 rfl rfl ?_
        refine j_iload_n hX 1 dX0_costs_138 rfl rfl ?_
        obtain ⟨x4, h1, h⟩ := bs h
        refine j_callSI hX mwX0_above msX0_above wd1048 hyX0_above (by omega) (by decide) ⟨Nat.zero_le _, Nat.zero_le _⟩ dX0_costs_139 (s_X0_above hfl hE h1) npX0_above rfl (Nat.le_of_ble_eq_true rfl) ?_
        refine j_iload_n hX 2 dX0_costs_142 rfl rfl ?_
        obtain ⟨x6, S5, h1, h⟩ := bd2_s h
        refine j_callVI hX mwX0_costs miX0_costs wd1053 cbX0 ty53 hyX0_costs (by omega) (by decide) ⟨Nat.zero_le _, Nat.zero_le _⟩ dX0_costs_143 (hO _ _ _ _ _ h1) npX0_costs rfl (Nat.le_of_ble_eq_true rfl) ?_
        cases h
        exact j_iret hX hR dX0_costs_146
      · rw [if_neg hc] at h
        refine j_iconst hX dX0_costs_133 (rc rfl) ?_
        refine j_goto hX (tgt := 146) dX0_costs_134 (by decide) ?_
        cases h
        exact j_iret hX hR dX0_costs_146
    · rw [if_neg hc1] at h
      by_cases hc2 : a1 = 2
      · rw [if_pos hc2] at h
        refine j_tin hX (tgt := 66) dX0_costs_1 hc2 (by decide) (by decide) rfl (by decide) ?_
        refine j_aload_n hX 0 dX0_costs_66 rfl rfl ?_
        refine j_bipush hX dX0_costs_67 (rc rfl) (by decide) ?_
        obtain ⟨S7, h1, h⟩ := bs h
        refine j_callVV hX mwX0_begins miX0_begins wd1044 cbX0 ty53 hyX0_begins (by omega) (by decide) ⟨Nat.zero_le _, Nat.zero_le _⟩ dX0_costs_69 (s_X0_begins hfl hE h1) npX0_begins rfl (Nat.le_of_ble_eq_true rfl) ?_
        refine j_aload_n hX 0 dX0_costs_72 rfl rfl ?_
        refine j_iload_n hX 1 dX0_costs_73 rfl rfl ?_
        obtain ⟨x8, h1, h⟩ := bs h
        refine j_callSI hX mwX0_above msX0_above wd1048 hyX0_above (by omega) (by decide) ⟨Nat.zero_le _, Nat.zero_le _⟩ dX0_costs_74 (s_X0_above hfl hE h1) npX0_above rfl (Nat.le_of_ble_eq_true rfl) ?_
        refine j_iload_n hX 2 dX0_costs_77 rfl rfl ?_
        obtain ⟨x10, S9, h1, h⟩ := bd2_s h
        refine j_callVI hX mwX0_costs miX0_costs wd1053 cbX0 ty53 hyX0_costs (by omega) (by decide) ⟨Nat.zero_le _, Nat.zero_le _⟩ dX0_costs_78 (hO _ _ _ _ _ h1) npX0_costs rfl (Nat.le_of_ble_eq_true rfl) ?_
        refine j_ineg hX dX0_costs_81 ?_
        cases h
        exact j_iret hX hR dX0_costs_82
      · rw [if_neg hc2] at h
        by_cases hc3 : a1 = 3
        · rw [if_pos hc3] at h
          refine j_tin hX (tgt := 83) dX0_costs_1 hc3 (by decide) (by decide) rfl (by decide) ?_
          refine j_aload_n hX 0 dX0_costs_83 rfl rfl ?_
          refine j_bipush hX dX0_costs_84 (rc rfl) (by decide) ?_
          obtain ⟨S11, h1, h⟩ := bs h
          refine j_callVV hX mwX0_begins miX0_begins wd1044 cbX0 ty53 hyX0_begins (by omega) (by decide) ⟨Nat.zero_le _, Nat.zero_le _⟩ dX0_costs_86 (s_X0_begins hfl hE h1) npX0_begins rfl (Nat.le_of_ble_eq_true rfl) ?_
          refine j_aload_n hX 0 dX0_costs_89 rfl rfl ?_
          refine j_iload_n hX 1 dX0_costs_90 rfl rfl ?_
          obtain ⟨x12, h1, h⟩ := bs h
          refine j_callSI hX mwX0_above msX0_above wd1048 hyX0_above (by omega) (by decide) ⟨Nat.zero_le _, Nat.zero_le _⟩ dX0_costs_91 (s_X0_above hfl hE h1) npX0_above rfl (Nat.le_of_ble_eq_true rfl) ?_
          refine j_iload_n hX 2 dX0_costs_94 rfl rfl ?_
          refine j_iconst hX dX0_costs_95 (rc rfl) ?_
          refine j_iadd hX dX0_costs_96 ?_
          obtain ⟨x14, S13, h1, h⟩ := bd2_s h
          refine j_callVI hX mwX0_costs miX0_costs wd1053 cbX0 ty53 hyX0_costs (by omega) (by decide) ⟨Nat.zero_le _, Nat.zero_le _⟩ dX0_costs_97 (hO _ _ _ _ _ h1) npX0_costs rfl (Nat.le_of_ble_eq_true rfl) ?_
          cases h
          exact j_iret hX hR dX0_costs_100
        · rw [if_neg hc3] at h
          by_cases hc4 : a1 = 4
          · rw [if_pos hc4] at h
            refine j_tin hX (tgt := 129) dX0_costs_1 hc4 (by decide) (by decide) rfl (by decide) ?_
            refine j_iload_n hX 1 dX0_costs_129 rfl rfl ?_
            refine j_if_ge hX (tgt := 137) dX0_costs_130 (by decide) (fun hc => ?_) (fun hc => ?_)
            · rw [if_pos hc] at h
              refine j_aload_n hX 0 dX0_costs_137 rfl rfl ?_
              refine j_iload_n hX 1 dX0_costs_138 rfl rfl ?_
              obtain ⟨x15, h1, h⟩ := bs h
              refine j_callSI hX mwX0_above msX0_above wd1048 hyX0_above (by omega) (by decide) ⟨Nat.zero_le _, Nat.zero_le _⟩ dX0_costs_139 (s_X0_above hfl hE h1) npX0_above rfl (Nat.le_of_ble_eq_true rfl) ?_
              refine j_iload_n hX 2 dX0_costs_142 rfl rfl ?_
              obtain ⟨x17, S16, h1, h⟩ := bd2_s h
              refine j_callVI hX mwX0_costs miX0_costs wd1053 cbX0 ty53 hyX0_costs (by omega) (by decide) ⟨Nat.zero_le _, Nat.zero_le _⟩ dX0_costs_143 (hO _ _ _ _ _ h1) npX0_costs rfl (Nat.le_of_ble_eq_true rfl) ?_
              cases h
              exact j_iret hX hR dX0_costs_146
            · rw [if_neg hc] at h
              refine j_iconst hX dX0_costs_133 (rc rfl) ?_
              refine j_goto hX (tgt := 146) dX0_costs_134 (by decide) ?_
              cases h
              exact j_iret hX hR dX0_costs_146
          · rw [if_neg hc4] at h
            by_cases hc5 : a1 = 5
            · rw [if_pos hc5] at h
              refine j_tin hX (tgt := 129) dX0_costs_1 hc5 (by decide) (by decide) rfl (by decide) ?_
              refine j_iload_n hX 1 dX0_costs_129 rfl rfl ?_
              refine j_if_ge hX (tgt := 137) dX0_costs_130 (by decide) (fun hc => ?_) (fun hc => ?_)
              · rw [if_pos hc] at h
                refine j_aload_n hX 0 dX0_costs_137 rfl rfl ?_
                refine j_iload_n hX 1 dX0_costs_138 rfl rfl ?_
                obtain ⟨x18, h1, h⟩ := bs h
                refine j_callSI hX mwX0_above msX0_above wd1048 hyX0_above (by omega) (by decide) ⟨Nat.zero_le _, Nat.zero_le _⟩ dX0_costs_139 (s_X0_above hfl hE h1) npX0_above rfl (Nat.le_of_ble_eq_true rfl) ?_
                refine j_iload_n hX 2 dX0_costs_142 rfl rfl ?_
                obtain ⟨x20, S19, h1, h⟩ := bd2_s h
                refine j_callVI hX mwX0_costs miX0_costs wd1053 cbX0 ty53 hyX0_costs (by omega) (by decide) ⟨Nat.zero_le _, Nat.zero_le _⟩ dX0_costs_143 (hO _ _ _ _ _ h1) npX0_costs rfl (Nat.le_of_ble_eq_true rfl) ?_
                cases h
                exact j_iret hX hR dX0_costs_146
              · rw [if_neg hc] at h
                refine j_iconst hX dX0_costs_133 (rc rfl) ?_
                refine j_goto hX (tgt := 146) dX0_costs_134 (by decide) ?_
                cases h
                exact j_iret hX hR dX0_costs_146
            · rw [if_neg hc5] at h
              by_cases hc6 : a1 = 6
              · rw [if_pos hc6] at h
                refine j_tin hX (tgt := 129) dX0_costs_1 hc6 (by decide) (by decide) rfl (by decide) ?_
                refine j_iload_n hX 1 dX0_costs_129 rfl rfl ?_
                refine j_if_ge hX (tgt := 137) dX0_costs_130 (by decide) (fun hc => ?_) (fun hc => ?_)
                · rw [if_pos hc] at h
                  refine j_aload_n hX 0 dX0_costs_137 rfl rfl ?_
                  refine j_iload_n hX 1 dX0_costs_138 rfl rfl ?_
                  obtain ⟨x21, h1, h⟩ := bs h
                  refine j_callSI hX mwX0_above msX0_above wd1048 hyX0_above (by omega) (by decide) ⟨Nat.zero_le _, Nat.zero_le _⟩ dX0_costs_139 (s_X0_above hfl hE h1) npX0_above rfl (Nat.le_of_ble_eq_true rfl) ?_
                  refine j_iload_n hX 2 dX0_costs_142 rfl rfl ?_
                  obtain ⟨x23, S22, h1, h⟩ := bd2_s h
                  refine j_callVI hX mwX0_costs miX0_costs wd1053 cbX0 ty53 hyX0_costs (by omega) (by decide) ⟨Nat.zero_le _, Nat.zero_le _⟩ dX0_costs_143 (hO _ _ _ _ _ h1) npX0_costs rfl (Nat.le_of_ble_eq_true rfl) ?_
                  cases h
                  exact j_iret hX hR dX0_costs_146
                · rw [if_neg hc] at h
                  refine j_iconst hX dX0_costs_133 (rc rfl) ?_
                  refine j_goto hX (tgt := 146) dX0_costs_134 (by decide) ?_
                  cases h
                  exact j_iret hX hR dX0_costs_146
              · rw [if_neg hc6] at h
                by_cases hc7 : a1 = 7
                · rw [if_pos hc7] at h
                  refine j_tin hX (tgt := 101) dX0_costs_1 hc7 (by decide) (by decide) rfl (by decide) ?_
                  refine j_aload_n hX 0 dX0_costs_101 rfl rfl ?_
                  refine j_bipush hX dX0_costs_102 (rc rfl) (by decide) ?_
                  obtain ⟨S24, h1, h⟩ := bs h
                  refine j_callVV hX mwX0_begins miX0_begins wd1044 cbX0 ty53 hyX0_begins (by omega) (by decide) ⟨Nat.zero_le _, Nat.zero_le _⟩ dX0_costs_104 (s_X0_begins hfl hE h1) npX0_begins rfl (Nat.le_of_ble_eq_true rfl) ?_
                  refine j_aload_n hX 0 dX0_costs_107 rfl rfl ?_
                  refine j_iload_n hX 1 dX0_costs_108 rfl rfl ?_
                  obtain ⟨x25, h1, h⟩ := bs h
                  refine j_callSI hX mwX0_above msX0_above wd1048 hyX0_above (by omega) (by decide) ⟨Nat.zero_le _, Nat.zero_le _⟩ dX0_costs_109 (s_X0_above hfl hE h1) npX0_above rfl (Nat.le_of_ble_eq_true rfl) ?_
                  refine j_iload_n hX 2 dX0_costs_112 rfl rfl ?_
                  obtain ⟨x27, S26, h1, h⟩ := bd2_s h
                  refine j_callVI hX mwX0_costs miX0_costs wd1053 cbX0 ty53 hyX0_costs (by omega) (by decide) ⟨Nat.zero_le _, Nat.zero_le _⟩ dX0_costs_113 (hO _ _ _ _ _ h1) npX0_costs rfl (Nat.le_of_ble_eq_true rfl) ?_
                  refine j_istore_n (L' := [(3, vI (x27)), (0, vR 53), (1, vI (a1)), (2, vI (a2))]) hX dX0_costs_116 rfl hnl (by decide) rfl ?_
                  refine j_iload_n hX 0 dX0_costs_117 rfl rfl ?_
                  refine j_aload_n hX 1 dX0_costs_118 rfl rfl ?_
                  refine j_aload_n hX 1 dX0_costs_119 rfl rfl ?_
                  refine j_getI (k := 5) hX hE cbX0 ty53 pc53 (by decide) rfl wd390 rfl dX0_costs_120 ?_
                  refine j_iconst hX dX0_costs_123 (rc rfl) ?_
                  obtain ⟨x29, S28, h1, h⟩ := bd2_s h
                  refine j_callVI hX mwX0_errs miX0_errs wd1057 cbX0 ty53 hyX0_errs (by omega) (by decide) ⟨Nat.zero_le _, Nat.zero_le _⟩ dX0_costs_124 (s_X0_errs hfl hE h1) npX0_errs rfl (Nat.le_of_ble_eq_true rfl) ?_
                  refine j_iadd hX dX0_costs_127 ?_
                  cases h
                  exact j_iret hX hR dX0_costs_128
                · rw [if_neg hc7] at h
                  refine j_tout hX (tgt := 129) dX0_costs_1 (by omega) (by decide) ?_
                  refine j_iload_n hX 1 dX0_costs_129 rfl rfl ?_
                  refine j_if_ge hX (tgt := 137) dX0_costs_130 (by decide) (fun hc => ?_) (fun hc => ?_)
                  · rw [if_pos hc] at h
                    refine j_aload_n hX 0 dX0_costs_137 rfl rfl ?_
                    refine j_iload_n hX 1 dX0_costs_138 rfl rfl ?_
                    obtain ⟨x30, h1, h⟩ := bs h
                    refine j_callSI hX mwX0_above msX0_above wd1048 hyX0_above (by omega) (by decide) ⟨Nat.zero_le _, Nat.zero_le _⟩ dX0_costs_139 (s_X0_above hfl hE h1) npX0_above rfl (Nat.le_of_ble_eq_true rfl) ?_
                    refine j_iload_n hX 2 dX0_costs_142 rfl rfl ?_
                    obtain ⟨x32, S31, h1, h⟩ := bd2_s h
                    refine j_callVI hX mwX0_costs miX0_costs wd1053 cbX0 ty53 hyX0_costs (by omega) (by decide) ⟨Nat.zero_le _, Nat.zero_le _⟩ dX0_costs_143 (hO _ _ _ _ _ h1) npX0_costs rfl (Nat.le_of_ble_eq_true rfl) ?_
                    cases h
                    exact j_iret hX hR dX0_costs_146
                  · rw [if_neg hc] at h
                    refine j_iconst hX dX0_costs_133 (rc rfl) ?_
                    refine j_goto hX (tgt := 146) dX0_costs_134 (by decide) ?_
                    cases h
                    exact j_iret hX hR dX0_costs_146
theorem s_X0_costs_R {g : G0} {B : Nat → Nat} {n : Nat} {E : Mem → Mem} (hfl : g.2.2.2.2 = true) (hE : Lens E PC) : ∀ (fu : Nat) (a1 : Int) (a2 : Int) (S : Mem) (r : Int) (S1 : Mem), g_X0_costs fu a1 a2 S = some (r, S1) → Cn g B n yX0_costs cX0_costs 4 (some .int) (26 + 1 * fu) [vR 53, vI (a1), vI (a2)] (E S) (QcI g B n r (E S1)) := by
  intro fu
  induction fu with
  | zero => intro a1 a2 S r S1 h; cases h
  | succ fu ih =>
    intro a1 a2 S r S1 h
    exact s_X0_costs_B (dd := 26 + 1 * fu) hfl (by omega) hE ih h
theorem s_X0_costs {g : G0} {B : Nat → Nat} {n : Nat} {E : Mem → Mem} {a1 : Int} {a2 : Int} {S : Mem} {r : Int} {S' : Mem} (hfl : g.2.2.2.2 = true) (hE : Lens E PC) (h : g_X0_costs 10 a1 a2 S = some (r, S')) : Cn g B n yX0_costs cX0_costs 4 (some .int) 36 [vR 53, vI (a1), vI (a2)] (E S) (QcI g B n r (E S')) := s_X0_costs_R hfl hE 10 _ _ _ _ _ h
theorem s_X0_tells_B {g : G0} {B : Nat → Nat} {n : Nat} {E : Mem → Mem} {a1 : Int} {a2 : Int} {S : Mem} {r : Int} {S' : Mem} (hfl : g.2.2.2.2 = true) {rO : Int → Int → Mem → Option (Int × Mem)} {dd : Nat} (hdd : 36 ≤ dd) (hE : Lens E PC) (hO : ∀ (a1 : Int) (a2 : Int) (S : Mem) (r : Int) (S1 : Mem), rO a1 a2 S = some (r, S1) → Cn g B n yX0_tells cX0_tells 4 (some .int) dd [vR 53, vI (a1), vI (a2)] (E S) (QcI g B n r (E S1))) (h : g_X0_tells_B rO a1 a2 S = some (r, S')) : Cn g B n yX0_tells cX0_tells 4 (some .int) (dd + 1) [vR 53, vI (a1), vI (a2)] (E S) (QcI g B n r (E S')) := by
  refine Cn.of (by decide +kernel) (Nat.le_of_ble_eq_true rfl) (fun X hg hnl hX hR => ?_)
  subst hg
  have hX : Ctx X cX0_tells "TelegramFeelings$Bodies" (dd + 1) := hX
  unfold g_X0_tells_B at h
  show JW X B n 0 0 0 [(0, vR 53), (1, vI (a1)), (2, vI (a2))] [] (E S) (QM X (QcI (gX X) B n r (E S')))
  refine j_iload_n hX 1 dX0_tells_0 rfl rfl ?_
  by_cases hc0 : a1 = 0
  · rw [if_pos hc0] at h
    refine j_lsw (off := 35) hX (tgt := 36) dX0_tells_1 (by decide) (by rw [hc0]; decide) (by decide) ?_
    refine j_aload_n hX 0 dX0_tells_36 rfl rfl ?_
    refine j_iconst hX dX0_tells_37 (rc rfl) ?_
    obtain ⟨S1, h1, h⟩ := bs h
    refine j_callVV hX mwX0_begins miX0_begins wd1044 cbX0 ty53 hyX0_begins (by omega) (by decide) ⟨Nat.zero_le _, Nat.zero_le _⟩ dX0_tells_38 (s_X0_begins hfl hE h1) npX0_begins rfl (Nat.le_of_ble_eq_true rfl) ?_
    refine j_aload_n hX 0 dX0_tells_41 rfl rfl ?_
    refine j_aload_n hX 0 dX0_tells_42 rfl rfl ?_
    refine j_getI (k := 5) hX hE cbX0 ty53 pc53 (by decide) rfl wd390 rfl dX0_tells_43 ?_
    refine j_iload_n hX 2 dX0_tells_46 rfl rfl ?_
    obtain ⟨x3, S2, h1, h⟩ := bd2_s h
    refine j_callVI hX mwX0_costs miX0_costs wd1053 cbX0 ty53 hyX0_costs (by omega) (by decide) ⟨Nat.zero_le _, Nat.zero_le _⟩ dX0_tells_47 (s_X0_costs hfl hE h1) npX0_costs rfl (Nat.le_of_ble_eq_true rfl) ?_
    refine j_istore_n (L' := [(3, vI (x3)), (0, vR 53), (1, vI (a1)), (2, vI (a2))]) hX dX0_tells_50 rfl hnl (by decide) rfl ?_
    refine j_iload_n hX 0 dX0_tells_51 rfl rfl ?_
    refine j_aload_n hX 1 dX0_tells_52 rfl rfl ?_
    refine j_aload_n hX 1 dX0_tells_53 rfl rfl ?_
    refine j_getI (k := 5) hX hE cbX0 ty53 pc53 (by decide) rfl wd390 rfl dX0_tells_54 ?_
    refine j_iconst hX dX0_tells_57 (rc rfl) ?_
    obtain ⟨x5, S4, h1, h⟩ := bd2_s h
    refine j_callVI hX mwX0_errs miX0_errs wd1057 cbX0 ty53 hyX0_errs (by omega) (by decide) ⟨Nat.zero_le _, Nat.zero_le _⟩ dX0_tells_58 (s_X0_errs hfl hE h1) npX0_errs rfl (Nat.le_of_ble_eq_true rfl) ?_
    refine j_isub hX dX0_tells_61 ?_
    cases h
    exact j_iret hX hR dX0_tells_62
  · rw [if_neg hc0] at h
    by_cases hc1 : a1 = 4
    · rw [if_pos hc1] at h
      refine j_lsw (off := 62) hX (tgt := 63) dX0_tells_1 (by decide) (by rw [hc1]; decide) (by decide) ?_
      refine j_aload_n hX 0 dX0_tells_63 rfl rfl ?_
      refine j_bipush hX dX0_tells_64 (rc rfl) (by decide) ?_
      obtain ⟨S6, h1, h⟩ := bs h
      refine j_callVV hX mwX0_begins miX0_begins wd1044 cbX0 ty53 hyX0_begins (by omega) (by decide) ⟨Nat.zero_le _, Nat.zero_le _⟩ dX0_tells_66 (s_X0_begins hfl hE h1) npX0_begins rfl (Nat.le_of_ble_eq_true rfl) ?_
      refine j_aload_n hX 0 dX0_tells_69 rfl rfl ?_
      refine j_iload_n hX 1 dX0_tells_70 rfl rfl ?_
      obtain ⟨x7, h1, h⟩ := bs h
      refine j_callSI hX mwX0_above msX0_above wd1048 hyX0_above (by omega) (by decide) ⟨Nat.zero_le _, Nat.zero_le _⟩ dX0_tells_71 (s_X0_above hfl hE h1) npX0_above rfl (Nat.le_of_ble_eq_true rfl) ?_
      refine j_iload_n hX 2 dX0_tells_74 rfl rfl ?_
      obtain ⟨x9, S8, h1, h⟩ := bd2_s h
      refine j_callVI hX mwX0_tells miX0_tells wd1061 cbX0 ty53 hyX0_tells (by omega) (by decide) ⟨Nat.zero_le _, Nat.zero_le _⟩ dX0_tells_75 (hO _ _ _ _ _ h1) npX0_tells rfl (Nat.le_of_ble_eq_true rfl) ?_
      refine j_iconst hX dX0_tells_78 (rc rfl) ?_
      refine j_ixor hX dX0_tells_79 ?_
      cases h
      exact j_iret hX hR dX0_tells_80
    · rw [if_neg hc1] at h
      by_cases hc2 : a1 = 5
      · rw [if_pos hc2] at h
        refine j_lsw (off := 80) hX (tgt := 81) dX0_tells_1 (by decide) (by rw [hc2]; decide) (by decide) ?_
        refine j_aload_n hX 0 dX0_tells_81 rfl rfl ?_
        refine j_bipush hX dX0_tells_82 (rc rfl) (by decide) ?_
        obtain ⟨S10, h1, h⟩ := bs h
        refine j_callVV hX mwX0_begins miX0_begins wd1044 cbX0 ty53 hyX0_begins (by omega) (by decide) ⟨Nat.zero_le _, Nat.zero_le _⟩ dX0_tells_84 (s_X0_begins hfl hE h1) npX0_begins rfl (Nat.le_of_ble_eq_true rfl) ?_
        refine j_aload_n hX 0 dX0_tells_87 rfl rfl ?_
        refine j_iload_n hX 1 dX0_tells_88 rfl rfl ?_
        obtain ⟨x11, h1, h⟩ := bs h
        refine j_callSI hX mwX0_above msX0_above wd1048 hyX0_above (by omega) (by decide) ⟨Nat.zero_le _, Nat.zero_le _⟩ dX0_tells_89 (s_X0_above hfl hE h1) npX0_above rfl (Nat.le_of_ble_eq_true rfl) ?_
        refine j_iload_n hX 2 dX0_tells_92 rfl rfl ?_
        obtain ⟨x13, S12, h1, h⟩ := bd2_s h
        refine j_callVI hX mwX0_tells miX0_tells wd1061 cbX0 ty53 hyX0_tells (by omega) (by decide) ⟨Nat.zero_le _, Nat.zero_le _⟩ dX0_tells_93 (hO _ _ _ _ _ h1) npX0_tells rfl (Nat.le_of_ble_eq_true rfl) ?_
        refine j_iconst hX dX0_tells_96 (rc rfl) ?_
        refine j_iadd hX dX0_tells_97 ?_
        cases h
        exact j_iret hX hR dX0_tells_98
      · rw [if_neg hc2] at h
        refine j_lsw (off := 98) hX (tgt := 99) dX0_tells_1 (by decide) (lk_none (by simp [hc0, Ne.symm hc0, hc1, Ne.symm hc1, hc2, Ne.symm hc2])) (by decide) ?_
        refine j_iload_n hX 1 dX0_tells_99 rfl rfl ?_
        refine j_if_ge hX (tgt := 107) dX0_tells_100 (by decide) (fun hc => ?_) (fun hc => ?_)
        · rw [if_pos hc] at h
          refine j_aload_n hX 0 dX0_tells_107 rfl rfl ?_
          refine j_iload_n hX 1 dX0_tells_108 rfl rfl ?_
          obtain ⟨x14, h1, h⟩ := bs h
          refine j_callSI hX mwX0_above msX0_above wd1048 hyX0_above (by omega) (by decide) ⟨Nat.zero_le _, Nat.zero_le _⟩ dX0_tells_109 (s_X0_above hfl hE h1) npX0_above rfl (Nat.le_of_ble_eq_true rfl) ?_
          refine j_iload_n hX 2 dX0_tells_112 rfl rfl ?_
          obtain ⟨x16, S15, h1, h⟩ := bd2_s h
          refine j_callVI hX mwX0_tells miX0_tells wd1061 cbX0 ty53 hyX0_tells (by omega) (by decide) ⟨Nat.zero_le _, Nat.zero_le _⟩ dX0_tells_113 (hO _ _ _ _ _ h1) npX0_tells rfl (Nat.le_of_ble_eq_true rfl) ?_
          cases h
          exact j_iret hX hR dX0_tells_116
        · rw [if_neg hc] at h
          refine j_iconst hX dX0_tells_103 (rc rfl) ?_
          refine j_goto hX (tgt := 116) dX0_tells_104 (by decide) ?_
          cases h
          exact j_iret hX hR dX0_tells_116
theorem s_X0_tells_R {g : G0} {B : Nat → Nat} {n : Nat} {E : Mem → Mem} (hfl : g.2.2.2.2 = true) (hE : Lens E PC) : ∀ (fu : Nat) (a1 : Int) (a2 : Int) (S : Mem) (r : Int) (S1 : Mem), g_X0_tells fu a1 a2 S = some (r, S1) → Cn g B n yX0_tells cX0_tells 4 (some .int) (36 + 1 * fu) [vR 53, vI (a1), vI (a2)] (E S) (QcI g B n r (E S1)) := by
  intro fu
  induction fu with
  | zero => intro a1 a2 S r S1 h; cases h
  | succ fu ih =>
    intro a1 a2 S r S1 h
    exact s_X0_tells_B (dd := 36 + 1 * fu) hfl (by omega) hE ih h
theorem s_X0_tells {g : G0} {B : Nat → Nat} {n : Nat} {E : Mem → Mem} {a1 : Int} {a2 : Int} {S : Mem} {r : Int} {S' : Mem} (hfl : g.2.2.2.2 = true) (hE : Lens E PC) (h : g_X0_tells 10 a1 a2 S = some (r, S')) : Cn g B n yX0_tells cX0_tells 4 (some .int) 46 [vR 53, vI (a1), vI (a2)] (E S) (QcI g B n r (E S')) := s_X0_tells_R hfl hE 10 _ _ _ _ _ h
theorem s_X0_runAct {g : G0} {B : Nat → Nat} {n : Nat} {E : Mem → Mem} {a1 : Int} {a2 : Int} {a3 : Int} {S : Mem} {r : Int} {S' : Mem} (hfl : g.2.2.2.2 = true) (hE : Lens E PC) (h : g_X0_runAct a1 a2 a3 S = some (r, S')) : Cn g B n yX0_runAct cX0_runAct 4 (some .int) 47 [vR 53, vI (a1), vI (a2), vI (a3)] (E S) (QcI g B n r (E S')) := by
  refine Cn.of (by decide +kernel) (Nat.le_of_ble_eq_true rfl) (fun X hg hnl hX hR => ?_)
  subst hg
  have hX : Ctx X cX0_runAct "TelegramFeelings$Bodies" 47 := hX
  unfold g_X0_runAct at h
  show JW X B n 0 0 0 [(0, vR 53), (1, vI (a1)), (2, vI (a2)), (3, vI (a3))] [] (E S) (QM X (QcI (gX X) B n r (E S')))
  refine j_aload_n hX 0 dX0_runAct_0 rfl rfl ?_
  refine j_iconst hX dX0_runAct_1 (rc rfl) ?_
  refine j_putI (k := 3) hX hE cbX0 ty53 pc53 (by decide) rfl wd387 rfl (Or.inl rfl) rfl dX0_runAct_2 ?_
  obtain ⟨S1, hx, h⟩ := ap_s h
  rw [← hx]
  clear hx
  refine j_aload_n hX 0 dX0_runAct_5 rfl rfl ?_
  refine j_iload_n hX 1 dX0_runAct_6 rfl rfl ?_
  refine j_putI (k := 4) hX hE cbX0 ty53 pc53 (by decide) rfl wd389 rfl (Or.inl rfl) rfl dX0_runAct_7 ?_
  obtain ⟨S2, hx, h⟩ := ap_s h
  rw [← hx]
  clear hx
  refine j_aload_n hX 0 dX0_runAct_10 rfl rfl ?_
  refine j_aload_n hX 0 dX0_runAct_11 rfl rfl ?_
  refine j_iload_n hX 1 dX0_runAct_12 rfl rfl ?_
  obtain ⟨x3, h1, h⟩ := bs h
  refine j_callVI hX mwX0_kindOf miX0_kindOf wd1036 cbX0 ty53 hyX0_kindOf (by omega) (by decide) ⟨Nat.zero_le _, Nat.zero_le _⟩ dX0_runAct_13 (s_X0_kindOf hfl hE h1) npX0_kindOf rfl (Nat.le_of_ble_eq_true rfl) ?_
  refine j_putI (k := 5) hX hE cbX0 ty53 pc53 (by decide) rfl wd390 rfl (Or.inl rfl) rfl dX0_runAct_16 ?_
  obtain ⟨S4, hx, h⟩ := ap_s h
  rw [← hx]
  clear hx
  refine j_iload_n hX 2 dX0_runAct_19 rfl rfl ?_
  by_cases hc0 : a2 = 0
  · rw [if_pos hc0] at h
    refine j_tin hX (tgt := 52) dX0_runAct_20 hc0 (by decide) (by decide) rfl (by decide) ?_
    refine j_aload_n hX 0 dX0_runAct_52 rfl rfl ?_
    refine j_aload_n hX 0 dX0_runAct_53 rfl rfl ?_
    refine j_getI (k := 5) hX hE cbX0 ty53 pc53 (by decide) rfl wd390 rfl dX0_runAct_54 ?_
    refine j_iload_n hX 3 dX0_runAct_57 rfl rfl ?_
    obtain ⟨x6, S5, h1, h⟩ := bd2_s h
    refine j_callVI hX mwX0_says miX0_says wd1040 cbX0 ty53 hyX0_says (by omega) (by decide) ⟨Nat.zero_le _, Nat.zero_le _⟩ dX0_runAct_58 (s_X0_says hfl hE h1) npX0_says rfl (Nat.le_of_ble_eq_true rfl) ?_
    cases h
    exact j_iret hX hR dX0_runAct_61
  · rw [if_neg hc0] at h
    by_cases hc1 : a2 = 1
    · rw [if_pos hc1] at h
      refine j_tin hX (tgt := 62) dX0_runAct_20 hc1 (by decide) (by decide) rfl (by decide) ?_
      refine j_aload_n hX 0 dX0_runAct_62 rfl rfl ?_
      refine j_aload_n hX 0 dX0_runAct_63 rfl rfl ?_
      refine j_getI (k := 5) hX hE cbX0 ty53 pc53 (by decide) rfl wd390 rfl dX0_runAct_64 ?_
      refine j_iload_n hX 3 dX0_runAct_67 rfl rfl ?_
      obtain ⟨x8, S7, h1, h⟩ := bd2_s h
      refine j_callVI hX mwX0_costs miX0_costs wd1053 cbX0 ty53 hyX0_costs (by omega) (by decide) ⟨Nat.zero_le _, Nat.zero_le _⟩ dX0_runAct_68 (s_X0_costs hfl hE h1) npX0_costs rfl (Nat.le_of_ble_eq_true rfl) ?_
      cases h
      exact j_iret hX hR dX0_runAct_71
    · rw [if_neg hc1] at h
      by_cases hc2 : a2 = 2
      · rw [if_pos hc2] at h
        refine j_tin hX (tgt := 72) dX0_runAct_20 hc2 (by decide) (by decide) rfl (by decide) ?_
        refine j_aload_n hX 0 dX0_runAct_72 rfl rfl ?_
        refine j_aload_n hX 0 dX0_runAct_73 rfl rfl ?_
        refine j_getI (k := 5) hX hE cbX0 ty53 pc53 (by decide) rfl wd390 rfl dX0_runAct_74 ?_
        refine j_iload_n hX 3 dX0_runAct_77 rfl rfl ?_
        obtain ⟨x10, S9, h1, h⟩ := bd2_s h
        refine j_callVI hX mwX0_errs miX0_errs wd1057 cbX0 ty53 hyX0_errs (by omega) (by decide) ⟨Nat.zero_le _, Nat.zero_le _⟩ dX0_runAct_78 (s_X0_errs hfl hE h1) npX0_errs rfl (Nat.le_of_ble_eq_true rfl) ?_
        cases h
        exact j_iret hX hR dX0_runAct_81
      · rw [if_neg hc2] at h
        by_cases hc3 : a2 = 3
        · rw [if_pos hc3] at h
          refine j_tin hX (tgt := 82) dX0_runAct_20 hc3 (by decide) (by decide) rfl (by decide) ?_
          refine j_aload_n hX 0 dX0_runAct_82 rfl rfl ?_
          refine j_aload_n hX 0 dX0_runAct_83 rfl rfl ?_
          refine j_getI (k := 5) hX hE cbX0 ty53 pc53 (by decide) rfl wd390 rfl dX0_runAct_84 ?_
          refine j_iload_n hX 3 dX0_runAct_87 rfl rfl ?_
          obtain ⟨x12, S11, h1, h⟩ := bd2_s h
          refine j_callVI hX mwX0_tells miX0_tells wd1061 cbX0 ty53 hyX0_tells (by omega) (by decide) ⟨Nat.zero_le _, Nat.zero_le _⟩ dX0_runAct_88 (s_X0_tells hfl hE h1) npX0_tells rfl (Nat.le_of_ble_eq_true rfl) ?_
          cases h
          exact j_iret hX hR dX0_runAct_91
        · rw [if_neg hc3] at h
          refine j_tout hX (tgt := 92) dX0_runAct_20 (by omega) (by decide) ?_
          refine j_iconst hX dX0_runAct_92 (rc rfl) ?_
          cases h
          exact j_iret hX hR dX0_runAct_93
theorem s_X1_dropFirst {g : G0} {B : Nat → Nat} {n : Nat} {E : Mem → Mem}  {S : Mem} {S' : Mem} (hfl : g.2.2.2.2 = true) (hE : Lens E PC) (h : g_X1_dropFirst S = some S') : Cn g B n yX1_dropFirst cX1_dropFirst 1 none 1 [vR 48] (E S) (QcV g B n (E S')) := by
  refine Cn.of (by decide +kernel) (Nat.le_of_ble_eq_true rfl) (fun X hg hnl hX hR => ?_)
  subst hg
  have hX : Ctx X cX1_dropFirst "TelegramFeelings$Changes" 1 := hX
  unfold g_X1_dropFirst at h
  show JW X B n 0 0 0 [(0, vR 48)] [] (E S) (QM X (QcV (gX X) B n (E S')))
  refine j_aload_n hX 0 dX1_dropFirst_0 rfl rfl ?_
  refine j_getS (k := 1) hX hfl cbX1 ty48 (by decide) rfl wd355 rfl sb48_1 dX1_dropFirst_1 ?_
  refine j_iconst hX dX1_dropFirst_4 (rc rfl) ?_
  refine j_aload_n hX 0 dX1_dropFirst_5 rfl rfl ?_
  refine j_getS (k := 1) hX hfl cbX1 ty48 (by decide) rfl wd355 rfl sb48_1 dX1_dropFirst_6 ?_
  refine j_iconst hX dX1_dropFirst_9 (rc rfl) ?_
  refine j_bipush hX dX1_dropFirst_10 (rc rfl) (by decide) ?_
  obtain ⟨S1, hv, h⟩ := bs h
  refine j_copyI hX hE ty49 ty49 pc49 pc49 (by omega) hv wd510 dX1_dropFirst_12 rfl ?_
  refine j_aload_n hX 0 dX1_dropFirst_15 rfl rfl ?_
  refine j_getS (k := 2) hX hfl cbX1 ty48 (by decide) rfl wd356 rfl sb48_2 dX1_dropFirst_16 ?_
  refine j_iconst hX dX1_dropFirst_19 (rc rfl) ?_
  refine j_aload_n hX 0 dX1_dropFirst_20 rfl rfl ?_
  refine j_getS (k := 2) hX hfl cbX1 ty48 (by decide) rfl wd356 rfl sb48_2 dX1_dropFirst_21 ?_
  refine j_iconst hX dX1_dropFirst_24 (rc rfl) ?_
  refine j_bipush hX dX1_dropFirst_25 (rc rfl) (by decide) ?_
  obtain ⟨S2, hv, h⟩ := bs h
  refine j_copyI hX hE ty50 ty50 pc50 pc50 (by omega) hv wd510 dX1_dropFirst_27 rfl ?_
  refine j_aload_n hX 0 dX1_dropFirst_30 rfl rfl ?_
  refine j_getS (k := 3) hX hfl cbX1 ty48 (by decide) rfl wd357 rfl sb48_3 dX1_dropFirst_31 ?_
  refine j_iconst hX dX1_dropFirst_34 (rc rfl) ?_
  refine j_aload_n hX 0 dX1_dropFirst_35 rfl rfl ?_
  refine j_getS (k := 3) hX hfl cbX1 ty48 (by decide) rfl wd357 rfl sb48_3 dX1_dropFirst_36 ?_
  refine j_iconst hX dX1_dropFirst_39 (rc rfl) ?_
  refine j_bipush hX dX1_dropFirst_40 (rc rfl) (by decide) ?_
  obtain ⟨S3, hv, h⟩ := bs h
  refine j_copyI hX hE ty51 ty51 pc51 pc51 (by omega) hv wd510 dX1_dropFirst_42 rfl ?_
  refine j_aload_n hX 0 dX1_dropFirst_45 rfl rfl ?_
  refine j_getS (k := 4) hX hfl cbX1 ty48 (by decide) rfl wd358 rfl sb48_4 dX1_dropFirst_46 ?_
  refine j_iconst hX dX1_dropFirst_49 (rc rfl) ?_
  refine j_aload_n hX 0 dX1_dropFirst_50 rfl rfl ?_
  refine j_getS (k := 4) hX hfl cbX1 ty48 (by decide) rfl wd358 rfl sb48_4 dX1_dropFirst_51 ?_
  refine j_iconst hX dX1_dropFirst_54 (rc rfl) ?_
  refine j_bipush hX dX1_dropFirst_55 (rc rfl) (by decide) ?_
  obtain ⟨S4, hv, h⟩ := bs h
  refine j_copyI hX hE ty52 ty52 pc52 pc52 (by omega) hv wd510 dX1_dropFirst_57 rfl ?_
  refine j_aload_n hX 0 dX1_dropFirst_60 rfl rfl ?_
  refine j_bipush hX dX1_dropFirst_61 (rc rfl) (by decide) ?_
  refine j_putI (k := 5) hX hE cbX1 ty48 pc48 (by decide) rfl wd359 rfl (Or.inl rfl) rfl dX1_dropFirst_63 ?_
  obtain ⟨S5, hx, h⟩ := ap_s h
  rw [← hx]
  clear hx
  cases h
  exact j_vret hX hR dX1_dropFirst_66
theorem sj_X1_note_20 {X : K0} {B : Nat → Nat} {n : Nat} {E : Mem → Mem} {S' : Mem} (hX : Ctx X cX1_note "TelegramFeelings$Changes" 2) (hR : CR X none) (hfl : (gX X).2.2.2.2 = true) (hnl : X.2.2.2.2.2.2.2.2.2.2.2.2.2.2 = 5) (hE : Lens E PC)   {v1 : Int} {v2 : Int} {v3 : Int} {v4 : Int} {S : Mem} (h : g_X1_note_J20 v1 v2 v3 v4 S = some S') : JW X B n 0 0 20 [(0, vR 48), (1, vI (v1)), (2, vI (v2)), (3, vI (v3)), (4, vI (v4))] [] (E S) (QM X (QcV (gX X) B n (E S'))) := by
  unfold g_X1_note_J20 at h
  refine j_aload_n hX 0 dX1_note_20 rfl rfl ?_
  refine j_getS (k := 1) hX hfl cbX1 ty48 (by decide) rfl wd355 rfl sb48_1 dX1_note_21 ?_
  refine j_aload_n hX 0 dX1_note_24 rfl rfl ?_
  refine j_getI (k := 5) hX hE cbX1 ty48 pc48 (by decide) rfl wd359 rfl dX1_note_25 ?_
  refine j_iload_n hX 1 dX1_note_28 rfl rfl ?_
  obtain ⟨S2, hv, h⟩ := bs h
  refine j_iast hX hE ty49 pc49 hv dX1_note_29 ?_
  refine j_aload_n hX 0 dX1_note_30 rfl rfl ?_
  refine j_getS (k := 2) hX hfl cbX1 ty48 (by decide) rfl wd356 rfl sb48_2 dX1_note_31 ?_
  refine j_aload_n hX 0 dX1_note_34 rfl rfl ?_
  refine j_getI (k := 5) hX hE cbX1 ty48 pc48 (by decide) rfl wd359 rfl dX1_note_35 ?_
  refine j_iload_n hX 2 dX1_note_38 rfl rfl ?_
  obtain ⟨S3, hv, h⟩ := bs h
  refine j_iast hX hE ty50 pc50 hv dX1_note_39 ?_
  refine j_aload_n hX 0 dX1_note_40 rfl rfl ?_
  refine j_getS (k := 3) hX hfl cbX1 ty48 (by decide) rfl wd357 rfl sb48_3 dX1_note_41 ?_
  refine j_aload_n hX 0 dX1_note_44 rfl rfl ?_
  refine j_getI (k := 5) hX hE cbX1 ty48 pc48 (by decide) rfl wd359 rfl dX1_note_45 ?_
  refine j_iload_n hX 3 dX1_note_48 rfl rfl ?_
  obtain ⟨S4, hv, h⟩ := bs h
  refine j_iast hX hE ty51 pc51 hv dX1_note_49 ?_
  refine j_aload_n hX 0 dX1_note_50 rfl rfl ?_
  refine j_getS (k := 4) hX hfl cbX1 ty48 (by decide) rfl wd358 rfl sb48_4 dX1_note_51 ?_
  refine j_aload_n hX 0 dX1_note_54 rfl rfl ?_
  refine j_getI (k := 5) hX hE cbX1 ty48 pc48 (by decide) rfl wd359 rfl dX1_note_55 ?_
  refine j_iload hX 4 dX1_note_58 rfl ?_
  obtain ⟨S5, hv, h⟩ := bs h
  refine j_iast hX hE ty52 pc52 hv dX1_note_60 ?_
  refine j_aload_n hX 0 dX1_note_61 rfl rfl ?_
  refine j_dup hX dX1_note_62 rfl ?_
  refine j_getI (k := 5) hX hE cbX1 ty48 pc48 (by decide) rfl wd359 rfl dX1_note_63 ?_
  refine j_iconst hX dX1_note_66 (rc rfl) ?_
  refine j_iadd hX dX1_note_67 ?_
  refine j_putI (k := 5) hX hE cbX1 ty48 pc48 (by decide) rfl wd359 rfl (Or.inl rfl) rfl dX1_note_68 ?_
  obtain ⟨S6, hx, h⟩ := ap_s h
  rw [← hx]
  clear hx
  refine j_aload_n hX 0 dX1_note_71 rfl rfl ?_
  refine j_aload_n hX 0 dX1_note_72 rfl rfl ?_
  refine j_getI (k := 5) hX hE cbX1 ty48 pc48 (by decide) rfl wd359 rfl dX1_note_73 ?_
  refine j_putI (k := 6) hX hE cbX1 ty48 pc48 (by decide) rfl wd361 rfl (Or.inl rfl) rfl dX1_note_76 ?_
  obtain ⟨S7, hx, h⟩ := ap_s h
  rw [← hx]
  clear hx
  cases h
  exact j_vret hX hR dX1_note_79
theorem sj_X1_note_16 {X : K0} {B : Nat → Nat} {n : Nat} {E : Mem → Mem} {S' : Mem} (hX : Ctx X cX1_note "TelegramFeelings$Changes" 2) (hR : CR X none) (hfl : (gX X).2.2.2.2 = true) (hnl : X.2.2.2.2.2.2.2.2.2.2.2.2.2.2 = 5) (hE : Lens E PC)   {v1 : Int} {v2 : Int} {v3 : Int} {v4 : Int} {S : Mem} (h : g_X1_note_J16 v1 v2 v3 v4 S = some S') : JW X B n 0 0 16 [(0, vR 48), (1, vI (v1)), (2, vI (v2)), (3, vI (v3)), (4, vI (v4))] [] (E S) (QM X (QcV (gX X) B n (E S'))) := by
  unfold g_X1_note_J16 at h
  refine j_aload_n hX 0 dX1_note_16 rfl rfl ?_
  obtain ⟨S1, h1, h⟩ := bs h
  refine j_callVV hX mwX1_dropFirst miX1_dropFirst wd506 cbX1 ty48 hyX1_dropFirst (by omega) (by decide) ⟨Nat.zero_le _, Nat.zero_le _⟩ dX1_note_17 (s_X1_dropFirst hfl hE h1) npX1_dropFirst rfl (Nat.le_of_ble_eq_true rfl) ?_
  refine j_sub [0, 1, 2, 3, 4] rfl ?_
  exact sj_X1_note_20 hX hR hfl hnl hE  h
theorem s_X1_note {g : G0} {B : Nat → Nat} {n : Nat} {E : Mem → Mem} {a1 : Int} {a2 : Int} {a3 : Int} {a4 : Int} {S : Mem} {S' : Mem} (hfl : g.2.2.2.2 = true) (hE : Lens E PC) (h : g_X1_note a1 a2 a3 a4 S = some S') : Cn g B n yX1_note cX1_note 5 none 2 [vR 48, vI (a1), vI (a2), vI (a3), vI (a4)] (E S) (QcV g B n (E S')) := by
  refine Cn.of (by decide +kernel) (Nat.le_of_ble_eq_true rfl) (fun X hg hnl hX hR => ?_)
  subst hg
  have hX : Ctx X cX1_note "TelegramFeelings$Changes" 2 := hX
  unfold g_X1_note at h
  show JW X B n 0 0 0 [(0, vR 48), (1, vI (a1)), (2, vI (a2)), (3, vI (a3)), (4, vI (a4))] [] (E S) (QM X (QcV (gX X) B n (E S')))
  refine j_aload_n hX 0 dX1_note_0 rfl rfl ?_
  refine j_getI (k := 5) hX hE cbX1 ty48 pc48 (by decide) rfl wd359 rfl dX1_note_1 ?_
  refine j_if_lt hX (tgt := 16) dX1_note_4 (by decide) (fun hc => ?_) (fun hc => ?_)
  · rw [if_pos hc] at h
    refine j_sub [0, 1, 2, 3, 4] rfl ?_
    exact sj_X1_note_16 hX hR hfl hnl hE  h
  · rw [if_neg hc] at h
    refine j_aload_n hX 0 dX1_note_7 rfl rfl ?_
    refine j_getI (k := 5) hX hE cbX1 ty48 pc48 (by decide) rfl wd359 rfl dX1_note_8 ?_
    refine j_bipush hX dX1_note_11 (rc rfl) (by decide) ?_
    refine j_icmp_lt hX (tgt := 20) dX1_note_13 (by decide) (fun hc => ?_) (fun hc => ?_)
    · rw [if_pos hc] at h
      refine j_sub [0, 1, 2, 3, 4] rfl ?_
      exact sj_X1_note_20 hX hR hfl hnl hE  h
    · rw [if_neg hc] at h
      refine j_sub [0, 1, 2, 3, 4] rfl ?_
      exact sj_X1_note_16 hX hR hfl hnl hE  h
theorem s_X5_has {g : G0} {B : Nat → Nat} {n : Nat} {E : Mem → Mem} {a1 : Int} {a2 : Int} {S : Mem} {r : Int} (hfl : g.2.2.2.2 = true) (hE : Lens E PC) (h : g_X5_has a1 a2 S = r) : Cn g B n yX5_has cX5_has 3 (some .boolean) 1 [vR 1, vI (a1), vI (a2)] (E S) (QcI g B n r (E S)) := by
  refine Cn.of (by decide +kernel) (Nat.le_of_ble_eq_true rfl) (fun X hg hnl hX hR => ?_)
  subst hg
  have hX : Ctx X cX5_has "TelegramFeelings$Office" 1 := hX
  unfold g_X5_has at h
  show JW X B n 0 0 0 [(0, vR 1), (1, vI (a1)), (2, vI (a2))] [] (E S) (QM X (QcI (gX X) B n r (E S)))
  refine j_iload_n hX 1 dX5_has_0 rfl rfl ?_
  refine j_if_lt hX (tgt := 20) dX5_has_1 (by decide) (fun hc => ?_) (fun hc => ?_)
  · rw [if_pos hc] at h
    refine j_iconst hX dX5_has_20 (rc rfl) ?_
    subst h
    exact j_zret hX hR (Or.inl rfl) dX5_has_21
  · rw [if_neg hc] at h
    refine j_iload_n hX 1 dX5_has_4 rfl rfl ?_
    refine j_bipush hX dX5_has_5 (rc rfl) (by decide) ?_
    refine j_icmp_ge hX (tgt := 20) dX5_has_7 (by decide) (fun hc => ?_) (fun hc => ?_)
    · rw [if_pos hc] at h
      refine j_iconst hX dX5_has_20 (rc rfl) ?_
      subst h
      exact j_zret hX hR (Or.inl rfl) dX5_has_21
    · rw [if_neg hc] at h
      refine j_iload_n hX 2 dX5_has_10 rfl rfl ?_
      refine j_if_lt hX (tgt := 20) dX5_has_11 (by decide) (fun hc => ?_) (fun hc => ?_)
      · rw [if_pos hc] at h
        refine j_iconst hX dX5_has_20 (rc rfl) ?_
        subst h
        exact j_zret hX hR (Or.inl rfl) dX5_has_21
      · rw [if_neg hc] at h
        refine j_iload_n hX 2 dX5_has_14 rfl rfl ?_
        refine j_bipush hX dX5_has_15 (rc rfl) (by decide) ?_
        refine j_icmp_le hX (tgt := 22) dX5_has_17 (by decide) (fun hc => ?_) (fun hc => ?_)
        · rw [if_pos hc] at h
          refine j_iload_n hX 1 dX5_has_22 rfl rfl ?_
          refine j_iload_n hX 2 dX5_has_23 rfl rfl ?_
          refine j_iconst hX dX5_has_24 (rc rfl) ?_
          refine j_icmp_gt hX (tgt := 35) dX5_has_25 (by decide) (fun hc => ?_) (fun hc => ?_)
          · rw [if_pos hc] at h
            refine j_iload_n hX 2 dX5_has_35 rfl rfl ?_
            refine j_bipush hX dX5_has_36 (rc rfl) (by decide) ?_
            refine j_icmp_gt hX (tgt := 48) dX5_has_38 (by decide) (fun hc => ?_) (fun hc => ?_)
            · rw [if_pos hc] at h
              refine j_iconst hX dX5_has_48 (rc rfl) ?_
              refine j_icmp_ge hX (tgt := 56) dX5_has_49 (by decide) (fun hc => ?_) (fun hc => ?_)
              · rw [if_pos hc] at h
                refine j_iconst hX dX5_has_56 (rc rfl) ?_
                subst h
                exact j_zret hX hR (Or.inl rfl) dX5_has_57
              · rw [if_neg hc] at h
                refine j_iconst hX dX5_has_52 (rc rfl) ?_
                refine j_goto hX (tgt := 57) dX5_has_53 (by decide) ?_
                subst h
                exact j_zret hX hR (Or.inr rfl) dX5_has_57
            · rw [if_neg hc] at h
              refine j_aload_n hX 0 dX5_has_41 rfl rfl ?_
              refine j_getI (k := 2) hX hE cbX5 ty1 pc1 (by decide) rfl wd145 rfl dX5_has_42 ?_
              refine j_goto hX (tgt := 49) dX5_has_45 (by decide) ?_
              refine j_icmp_ge hX (tgt := 56) dX5_has_49 (by decide) (fun hc => ?_) (fun hc => ?_)
              · rw [if_pos hc] at h
                refine j_iconst hX dX5_has_56 (rc rfl) ?_
                subst h
                exact j_zret hX hR (Or.inl rfl) dX5_has_57
              · rw [if_neg hc] at h
                refine j_iconst hX dX5_has_52 (rc rfl) ?_
                refine j_goto hX (tgt := 57) dX5_has_53 (by decide) ?_
                subst h
                exact j_zret hX hR (Or.inr rfl) dX5_has_57
          · rw [if_neg hc] at h
            refine j_aload_n hX 0 dX5_has_28 rfl rfl ?_
            refine j_getI (k := 1) hX hE cbX5 ty1 pc1 (by decide) rfl wd141 rfl dX5_has_29 ?_
            refine j_goto hX (tgt := 49) dX5_has_32 (by decide) ?_
            refine j_icmp_ge hX (tgt := 56) dX5_has_49 (by decide) (fun hc => ?_) (fun hc => ?_)
            · rw [if_pos hc] at h
              refine j_iconst hX dX5_has_56 (rc rfl) ?_
              subst h
              exact j_zret hX hR (Or.inl rfl) dX5_has_57
            · rw [if_neg hc] at h
              refine j_iconst hX dX5_has_52 (rc rfl) ?_
              refine j_goto hX (tgt := 57) dX5_has_53 (by decide) ?_
              subst h
              exact j_zret hX hR (Or.inr rfl) dX5_has_57
        · rw [if_neg hc] at h
          refine j_iconst hX dX5_has_20 (rc rfl) ?_
          subst h
          exact j_zret hX hR (Or.inl rfl) dX5_has_21
theorem s_X5_set {g : G0} {B : Nat → Nat} {n : Nat} {E : Mem → Mem} {a1 : Int} {a2 : Int} {a3 : Int} {S : Mem} {S' : Mem} (hfl : g.2.2.2.2 = true) (hE : Lens E PC) (h : g_X5_set a1 a2 a3 S = some S') : Cn g B n yX5_set cX5_set 4 none 2 [vR 1, vI (a1), vI (a2), vI (a3)] (E S) (QcV g B n (E S')) := by
  refine Cn.of (by decide +kernel) (Nat.le_of_ble_eq_true rfl) (fun X hg hnl hX hR => ?_)
  subst hg
  have hX : Ctx X cX5_set "TelegramFeelings$Office" 2 := hX
  unfold g_X5_set at h
  show JW X B n 0 0 0 [(0, vR 1), (1, vI (a1)), (2, vI (a2)), (3, vI (a3))] [] (E S) (QM X (QcV (gX X) B n (E S')))
  refine j_aload_n hX 0 dX5_set_0 rfl rfl ?_
  refine j_iload_n hX 1 dX5_set_1 rfl rfl ?_
  refine j_iload_n hX 2 dX5_set_2 rfl rfl ?_
  refine j_callVI hX mwX5_has miX5_has wd455 cbX5 ty1 hyX5_has (by omega) (by decide) ⟨Nat.zero_le _, Nat.zero_le _⟩ dX5_set_3 (s_X5_has hfl hE rfl) npX5_has rfl (Nat.le_of_ble_eq_true rfl) ?_
  refine j_if_eq hX (tgt := 43) dX5_set_6 (by decide) (fun hc => ?_) (fun hc => ?_)
  · rw [if_pos hc] at h
    cases h
    exact j_vret hX hR dX5_set_43
  · rw [if_neg hc] at h
    refine j_aload_n hX 0 dX5_set_9 rfl rfl ?_
    refine j_getS (k := 0) hX hfl cbX5 ty1 (by decide) rfl wd140 rfl sb1_0 dX5_set_10 ?_
    refine j_iload_n hX 2 dX5_set_13 rfl rfl ?_
    obtain ⟨q1, hv, h⟩ := bs h
    refine j_aald hX hE ty2 (Or.inl rfl) pc2 hv dX5_set_14 ?_
    refine j_iload_n hX 1 dX5_set_15 rfl rfl ?_
    refine j_iload_n hX 3 dX5_set_16 rfl rfl ?_
    obtain ⟨S2, hv, h⟩ := bs h
    refine j_iastD hX hE (fun _ h => h) hv dX5_set_17 ?_
    refine j_aload_n hX 0 dX5_set_18 rfl rfl ?_
    refine j_dup hX dX5_set_19 rfl ?_
    refine j_getI (k := 3) hX hE cbX5 ty1 pc1 (by decide) rfl wd149 rfl dX5_set_20 ?_
    refine j_iload_n hX 2 dX5_set_23 rfl rfl ?_
    refine j_iconst hX dX5_set_24 (rc rfl) ?_
    refine j_icmp_le hX (tgt := 34) dX5_set_25 (by decide) (fun hc => ?_) (fun hc => ?_)
    · rw [if_pos hc] at h
      refine j_iconst hX dX5_set_34 (rc rfl) ?_
      refine j_goto hX (tgt := 39) dX5_set_35 (by decide) ?_
      refine j_iadd hX dX5_set_39 ?_
      refine j_putI (k := 3) hX hE cbX5 ty1 pc1 (by decide) rfl wd149 rfl (Or.inl rfl) rfl dX5_set_40 ?_
      obtain ⟨S3, hx, h⟩ := ap_s h
      rw [← hx]
      clear hx
      cases h
      exact j_vret hX hR dX5_set_43
    · rw [if_neg hc] at h
      refine j_iload_n hX 2 dX5_set_28 rfl rfl ?_
      refine j_bipush hX dX5_set_29 (rc rfl) (by decide) ?_
      refine j_icmp_ne hX (tgt := 38) dX5_set_31 (by decide) (fun hc => ?_) (fun hc => ?_)
      · rw [if_neg hc] at h
        refine j_iconst hX dX5_set_38 (rc rfl) ?_
        refine j_iadd hX dX5_set_39 ?_
        refine j_putI (k := 3) hX hE cbX5 ty1 pc1 (by decide) rfl wd149 rfl (Or.inl rfl) rfl dX5_set_40 ?_
        obtain ⟨S4, hx, h⟩ := ap_s h
        rw [← hx]
        clear hx
        cases h
        exact j_vret hX hR dX5_set_43
      · rw [if_pos hc] at h
        refine j_iconst hX dX5_set_34 (rc rfl) ?_
        refine j_goto hX (tgt := 39) dX5_set_35 (by decide) ?_
        refine j_iadd hX dX5_set_39 ?_
        refine j_putI (k := 3) hX hE cbX5 ty1 pc1 (by decide) rfl wd149 rfl (Or.inl rfl) rfl dX5_set_40 ?_
        obtain ⟨S5, hx, h⟩ := ap_s h
        rw [← hx]
        clear hx
        cases h
        exact j_vret hX hR dX5_set_43
theorem s_X1_undoOne {g : G0} {B : Nat → Nat} {n : Nat} {E : Mem → Mem}  {S : Mem} {r : Int} {S' : Mem} (hfl : g.2.2.2.2 = true) (hE : Lens E PC) (h : g_X1_undoOne S = some (r, S')) : Cn g B n yX1_undoOne cX1_undoOne 1 (some .int) 3 [vR 48] (E S) (QcI g B n r (E S')) := by
  refine Cn.of (by decide +kernel) (Nat.le_of_ble_eq_true rfl) (fun X hg hnl hX hR => ?_)
  subst hg
  have hX : Ctx X cX1_undoOne "TelegramFeelings$Changes" 3 := hX
  unfold g_X1_undoOne at h
  show JW X B n 0 0 0 [(0, vR 48)] [] (E S) (QM X (QcI (gX X) B n r (E S')))
  refine j_aload_n hX 0 dX1_undoOne_0 rfl rfl ?_
  refine j_getI (k := 5) hX hE cbX1 ty48 pc48 (by decide) rfl wd359 rfl dX1_undoOne_1 ?_
  refine j_if_le hX (tgt := 16) dX1_undoOne_4 (by decide) (fun hc => ?_) (fun hc => ?_)
  · rw [if_pos hc] at h
    refine j_bipush hX dX1_undoOne_16 (rc rfl) (by decide) ?_
    cases h
    exact j_iret hX hR dX1_undoOne_18
  · rw [if_neg hc] at h
    refine j_aload_n hX 0 dX1_undoOne_7 rfl rfl ?_
    refine j_getI (k := 5) hX hE cbX1 ty48 pc48 (by decide) rfl wd359 rfl dX1_undoOne_8 ?_
    refine j_bipush hX dX1_undoOne_11 (rc rfl) (by decide) ?_
    refine j_icmp_le hX (tgt := 19) dX1_undoOne_13 (by decide) (fun hc => ?_) (fun hc => ?_)
    · rw [if_pos hc] at h
      refine j_aload_n hX 0 dX1_undoOne_19 rfl rfl ?_
      refine j_dup hX dX1_undoOne_20 rfl ?_
      refine j_getI (k := 5) hX hE cbX1 ty48 pc48 (by decide) rfl wd359 rfl dX1_undoOne_21 ?_
      refine j_iconst hX dX1_undoOne_24 (rc rfl) ?_
      refine j_isub hX dX1_undoOne_25 ?_
      refine j_putI (k := 5) hX hE cbX1 ty48 pc48 (by decide) rfl wd359 rfl (Or.inl rfl) rfl dX1_undoOne_26 ?_
      obtain ⟨S1, hx, h⟩ := ap_s h
      rw [← hx]
      clear hx
      refine j_aload_n hX 0 dX1_undoOne_29 rfl rfl ?_
      refine j_getS (k := 0) hX hfl cbX1 ty48 (by decide) rfl wd354 rfl sb48_0 dX1_undoOne_30 ?_
      refine j_aload_n hX 0 dX1_undoOne_33 rfl rfl ?_
      refine j_getS (k := 1) hX hfl cbX1 ty48 (by decide) rfl wd355 rfl sb48_1 dX1_undoOne_34 ?_
      refine j_aload_n hX 0 dX1_undoOne_37 rfl rfl ?_
      refine j_getI (k := 5) hX hE cbX1 ty48 pc48 (by decide) rfl wd359 rfl dX1_undoOne_38 ?_
      obtain ⟨x2, hv, h⟩ := bs h
      refine j_iald hX hE ty49 pc49 hv dX1_undoOne_41 ?_
      refine j_aload_n hX 0 dX1_undoOne_42 rfl rfl ?_
      refine j_getS (k := 2) hX hfl cbX1 ty48 (by decide) rfl wd356 rfl sb48_2 dX1_undoOne_43 ?_
      refine j_aload_n hX 0 dX1_undoOne_46 rfl rfl ?_
      refine j_getI (k := 5) hX hE cbX1 ty48 pc48 (by decide) rfl wd359 rfl dX1_undoOne_47 ?_
      obtain ⟨x3, hv, h⟩ := bs h
      refine j_iald hX hE ty50 pc50 hv dX1_undoOne_50 ?_
      refine j_aload_n hX 0 dX1_undoOne_51 rfl rfl ?_
      refine j_getS (k := 3) hX hfl cbX1 ty48 (by decide) rfl wd357 rfl sb48_3 dX1_undoOne_52 ?_
      refine j_aload_n hX 0 dX1_undoOne_55 rfl rfl ?_
      refine j_getI (k := 5) hX hE cbX1 ty48 pc48 (by decide) rfl wd359 rfl dX1_undoOne_56 ?_
      obtain ⟨x4, hv, h⟩ := bs h
      refine j_iald hX hE ty51 pc51 hv dX1_undoOne_59 ?_
      obtain ⟨S5, h1, h⟩ := bs h
      refine j_callVV hX mwX5_set miX5_set wd1011 cbX5 ty1 hyX5_set (by omega) (by decide) ⟨Nat.zero_le _, Nat.zero_le _⟩ dX1_undoOne_60 (s_X5_set hfl hE h1) npX5_set rfl (Nat.le_of_ble_eq_true rfl) ?_
      refine j_aload_n hX 0 dX1_undoOne_63 rfl rfl ?_
      refine j_getI (k := 5) hX hE cbX1 ty48 pc48 (by decide) rfl wd359 rfl dX1_undoOne_64 ?_
      cases h
      exact j_iret hX hR dX1_undoOne_67
    · rw [if_neg hc] at h
      refine j_bipush hX dX1_undoOne_16 (rc rfl) (by decide) ?_
      cases h
      exact j_iret hX hR dX1_undoOne_18
theorem s_X1_redoOne {g : G0} {B : Nat → Nat} {n : Nat} {E : Mem → Mem}  {S : Mem} {r : Int} {S' : Mem} (hfl : g.2.2.2.2 = true) (hE : Lens E PC) (h : g_X1_redoOne S = some (r, S')) : Cn g B n yX1_redoOne cX1_redoOne 1 (some .int) 3 [vR 48] (E S) (QcI g B n r (E S')) := by
  refine Cn.of (by decide +kernel) (Nat.le_of_ble_eq_true rfl) (fun X hg hnl hX hR => ?_)
  subst hg
  have hX : Ctx X cX1_redoOne "TelegramFeelings$Changes" 3 := hX
  unfold g_X1_redoOne at h
  show JW X B n 0 0 0 [(0, vR 48)] [] (E S) (QM X (QcI (gX X) B n r (E S')))
  refine j_aload_n hX 0 dX1_redoOne_0 rfl rfl ?_
  refine j_getI (k := 5) hX hE cbX1 ty48 pc48 (by decide) rfl wd359 rfl dX1_redoOne_1 ?_
  refine j_if_lt hX (tgt := 27) dX1_redoOne_4 (by decide) (fun hc => ?_) (fun hc => ?_)
  · rw [if_pos hc] at h
    refine j_bipush hX dX1_redoOne_27 (rc rfl) (by decide) ?_
    cases h
    exact j_iret hX hR dX1_redoOne_29
  · rw [if_neg hc] at h
    refine j_aload_n hX 0 dX1_redoOne_7 rfl rfl ?_
    refine j_getI (k := 5) hX hE cbX1 ty48 pc48 (by decide) rfl wd359 rfl dX1_redoOne_8 ?_
    refine j_aload_n hX 0 dX1_redoOne_11 rfl rfl ?_
    refine j_getI (k := 6) hX hE cbX1 ty48 pc48 (by decide) rfl wd361 rfl dX1_redoOne_12 ?_
    refine j_icmp_ge hX (tgt := 27) dX1_redoOne_15 (by decide) (fun hc => ?_) (fun hc => ?_)
    · rw [if_pos hc] at h
      refine j_bipush hX dX1_redoOne_27 (rc rfl) (by decide) ?_
      cases h
      exact j_iret hX hR dX1_redoOne_29
    · rw [if_neg hc] at h
      refine j_aload_n hX 0 dX1_redoOne_18 rfl rfl ?_
      refine j_getI (k := 5) hX hE cbX1 ty48 pc48 (by decide) rfl wd359 rfl dX1_redoOne_19 ?_
      refine j_bipush hX dX1_redoOne_22 (rc rfl) (by decide) ?_
      refine j_icmp_lt hX (tgt := 30) dX1_redoOne_24 (by decide) (fun hc => ?_) (fun hc => ?_)
      · rw [if_pos hc] at h
        refine j_aload_n hX 0 dX1_redoOne_30 rfl rfl ?_
        refine j_getS (k := 0) hX hfl cbX1 ty48 (by decide) rfl wd354 rfl sb48_0 dX1_redoOne_31 ?_
        refine j_aload_n hX 0 dX1_redoOne_34 rfl rfl ?_
        refine j_getS (k := 1) hX hfl cbX1 ty48 (by decide) rfl wd355 rfl sb48_1 dX1_redoOne_35 ?_
        refine j_aload_n hX 0 dX1_redoOne_38 rfl rfl ?_
        refine j_getI (k := 5) hX hE cbX1 ty48 pc48 (by decide) rfl wd359 rfl dX1_redoOne_39 ?_
        obtain ⟨x1, hv, h⟩ := bs h
        refine j_iald hX hE ty49 pc49 hv dX1_redoOne_42 ?_
        refine j_aload_n hX 0 dX1_redoOne_43 rfl rfl ?_
        refine j_getS (k := 2) hX hfl cbX1 ty48 (by decide) rfl wd356 rfl sb48_2 dX1_redoOne_44 ?_
        refine j_aload_n hX 0 dX1_redoOne_47 rfl rfl ?_
        refine j_getI (k := 5) hX hE cbX1 ty48 pc48 (by decide) rfl wd359 rfl dX1_redoOne_48 ?_
        obtain ⟨x2, hv, h⟩ := bs h
        refine j_iald hX hE ty50 pc50 hv dX1_redoOne_51 ?_
        refine j_aload_n hX 0 dX1_redoOne_52 rfl rfl ?_
        refine j_getS (k := 4) hX hfl cbX1 ty48 (by decide) rfl wd358 rfl sb48_4 dX1_redoOne_53 ?_
        refine j_aload_n hX 0 dX1_redoOne_56 rfl rfl ?_
        refine j_getI (k := 5) hX hE cbX1 ty48 pc48 (by decide) rfl wd359 rfl dX1_redoOne_57 ?_
        obtain ⟨x3, hv, h⟩ := bs h
        refine j_iald hX hE ty52 pc52 hv dX1_redoOne_60 ?_
        obtain ⟨S4, h1, h⟩ := bs h
        refine j_callVV hX mwX5_set miX5_set wd1011 cbX5 ty1 hyX5_set (by omega) (by decide) ⟨Nat.zero_le _, Nat.zero_le _⟩ dX1_redoOne_61 (s_X5_set hfl hE h1) npX5_set rfl (Nat.le_of_ble_eq_true rfl) ?_
        refine j_aload_n hX 0 dX1_redoOne_64 rfl rfl ?_
        refine j_dup hX dX1_redoOne_65 rfl ?_
        refine j_getI (k := 5) hX hE cbX1 ty48 pc48 (by decide) rfl wd359 rfl dX1_redoOne_66 ?_
        refine j_iconst hX dX1_redoOne_69 (rc rfl) ?_
        refine j_iadd hX dX1_redoOne_70 ?_
        refine j_putI (k := 5) hX hE cbX1 ty48 pc48 (by decide) rfl wd359 rfl (Or.inl rfl) rfl dX1_redoOne_71 ?_
        obtain ⟨S5, hx, h⟩ := ap_s h
        rw [← hx]
        clear hx
        refine j_aload_n hX 0 dX1_redoOne_74 rfl rfl ?_
        refine j_getI (k := 6) hX hE cbX1 ty48 pc48 (by decide) rfl wd361 rfl dX1_redoOne_75 ?_
        refine j_aload_n hX 0 dX1_redoOne_78 rfl rfl ?_
        refine j_getI (k := 5) hX hE cbX1 ty48 pc48 (by decide) rfl wd359 rfl dX1_redoOne_79 ?_
        refine j_isub hX dX1_redoOne_82 ?_
        cases h
        exact j_iret hX hR dX1_redoOne_83
      · rw [if_neg hc] at h
        refine j_bipush hX dX1_redoOne_27 (rc rfl) (by decide) ?_
        cases h
        exact j_iret hX hR dX1_redoOne_29
theorem s_X2_refuse {g : G0} {B : Nat → Nat} {n : Nat} {E : Mem → Mem} {a1 : Int} {S : Mem} {r : Int} {S' : Mem} (hfl : g.2.2.2.2 = true) (hE : Lens E PC) (h : g_X2_refuse a1 S = some (r, S')) : Cn g B n yX2_refuse cX2_refuse 2 (some .int) 1 [vR 43, vI (a1)] (E S) (QcI g B n r (E S')) := by
  refine Cn.of (by decide +kernel) (Nat.le_of_ble_eq_true rfl) (fun X hg hnl hX hR => ?_)
  subst hg
  have hX : Ctx X cX2_refuse "TelegramFeelings$Deeds" 1 := hX
  unfold g_X2_refuse at h
  show JW X B n 0 0 0 [(0, vR 43), (1, vI (a1))] [] (E S) (QM X (QcI (gX X) B n r (E S')))
  refine j_aload_n hX 0 dX2_refuse_0 rfl rfl ?_
  refine j_getS (k := 1) hX hfl cbX2 ty43 (by decide) rfl wd323 rfl sb43_1 dX2_refuse_1 ?_
  refine j_iconst hX dX2_refuse_4 (rc rfl) ?_
  refine j_dup2 hX dX2_refuse_5 rfl rfl ?_
  refine j_iald hX hE ty44 pc44 (ldk_c (k := 3) (by decide)) dX2_refuse_6 ?_
  refine j_iconst hX dX2_refuse_7 (rc rfl) ?_
  refine j_iadd hX dX2_refuse_8 ?_
  refine j_iast hX hE ty44 pc44 (stk_c (k := 3) (by decide)) dX2_refuse_9 ?_
  obtain ⟨S2, hx, h⟩ := ap_s h
  rw [← hx]
  clear hx
  refine j_iload_n hX 1 dX2_refuse_10 rfl rfl ?_
  cases h
  exact j_iret hX hR dX2_refuse_11
theorem s_X5_value {g : G0} {B : Nat → Nat} {n : Nat} {E : Mem → Mem} {a1 : Int} {a2 : Int} {S : Mem} {r : Int} (hfl : g.2.2.2.2 = true) (hE : Lens E PC) (h : g_X5_value a1 a2 S = some r) : Cn g B n yX5_value cX5_value 3 (some .int) 2 [vR 1, vI (a1), vI (a2)] (E S) (QcI g B n r (E S)) := by
  refine Cn.of (by decide +kernel) (Nat.le_of_ble_eq_true rfl) (fun X hg hnl hX hR => ?_)
  subst hg
  have hX : Ctx X cX5_value "TelegramFeelings$Office" 2 := hX
  unfold g_X5_value at h
  show JW X B n 0 0 0 [(0, vR 1), (1, vI (a1)), (2, vI (a2))] [] (E S) (QM X (QcI (gX X) B n r (E S)))
  refine j_aload_n hX 0 dX5_value_0 rfl rfl ?_
  refine j_iload_n hX 1 dX5_value_1 rfl rfl ?_
  refine j_iload_n hX 2 dX5_value_2 rfl rfl ?_
  refine j_callVI hX mwX5_has miX5_has wd455 cbX5 ty1 hyX5_has (by omega) (by decide) ⟨Nat.zero_le _, Nat.zero_le _⟩ dX5_value_3 (s_X5_has hfl hE rfl) npX5_has rfl (Nat.le_of_ble_eq_true rfl) ?_
  refine j_if_eq hX (tgt := 20) dX5_value_6 (by decide) (fun hc => ?_) (fun hc => ?_)
  · rw [if_pos hc] at h
    refine j_iconst hX dX5_value_20 (rc rfl) ?_
    cases h
    exact j_iret hX hR dX5_value_21
  · rw [if_neg hc] at h
    refine j_aload_n hX 0 dX5_value_9 rfl rfl ?_
    refine j_getS (k := 0) hX hfl cbX5 ty1 (by decide) rfl wd140 rfl sb1_0 dX5_value_10 ?_
    refine j_iload_n hX 2 dX5_value_13 rfl rfl ?_
    obtain ⟨q1, hv, h⟩ := bs h
    refine j_aald hX hE ty2 (Or.inl rfl) pc2 hv dX5_value_14 ?_
    refine j_iload_n hX 1 dX5_value_15 rfl rfl ?_
    obtain ⟨x2, hv, h⟩ := bs h
    refine j_ialdD hX hE (fun _ h => h) hv dX5_value_16 ?_
    refine j_goto hX (tgt := 21) dX5_value_17 (by decide) ?_
    cases h
    exact j_iret hX hR dX5_value_21
theorem s_X2_noteWire {g : G0} {B : Nat → Nat} {n : Nat} {E : Mem → Mem} {a1 : Int} {a2 : Int} {S : Mem} {S' : Mem} (hfl : g.2.2.2.2 = true) (hE : Lens E PC) (h : g_X2_noteWire a1 a2 S = some S') : Cn g B n yX2_noteWire cX2_noteWire 3 none 3 [vR 43, vI (a1), vI (a2)] (E S) (QcV g B n (E S')) := by
  refine Cn.of (by decide +kernel) (Nat.le_of_ble_eq_true rfl) (fun X hg hnl hX hR => ?_)
  subst hg
  have hX : Ctx X cX2_noteWire "TelegramFeelings$Deeds" 3 := hX
  unfold g_X2_noteWire at h
  show JW X B n 0 0 0 [(0, vR 43), (1, vI (a1)), (2, vI (a2))] [] (E S) (QM X (QcV (gX X) B n (E S')))
  refine j_aload_n hX 0 dX2_noteWire_0 rfl rfl ?_
  refine j_getS (k := 1) hX hfl cbX2 ty43 (by decide) rfl wd323 rfl sb43_1 dX2_noteWire_1 ?_
  refine j_iconst hX dX2_noteWire_4 (rc rfl) ?_
  refine j_dup2 hX dX2_noteWire_5 rfl rfl ?_
  refine j_iald hX hE ty44 pc44 (ldk_c (k := 0) (by decide)) dX2_noteWire_6 ?_
  refine j_iconst hX dX2_noteWire_7 (rc rfl) ?_
  refine j_iadd hX dX2_noteWire_8 ?_
  refine j_iast hX hE ty44 pc44 (stk_c (k := 0) (by decide)) dX2_noteWire_9 ?_
  obtain ⟨S2, hx, h⟩ := ap_s h
  rw [← hx]
  clear hx
  refine j_aload_n hX 0 dX2_noteWire_10 rfl rfl ?_
  refine j_getS (k := 1) hX hfl cbX2 ty43 (by decide) rfl wd323 rfl sb43_1 dX2_noteWire_11 ?_
  refine j_iconst hX dX2_noteWire_14 (rc rfl) ?_
  refine j_dup2 hX dX2_noteWire_15 rfl rfl ?_
  refine j_iald hX hE ty44 pc44 (ldk_c (k := 1) (by decide)) dX2_noteWire_16 ?_
  refine j_iload_n hX 1 dX2_noteWire_17 rfl rfl ?_
  refine j_iadd hX dX2_noteWire_18 ?_
  refine j_iast hX hE ty44 pc44 (stk_c (k := 1) (by decide)) dX2_noteWire_19 ?_
  obtain ⟨S4, hx, h⟩ := ap_s h
  rw [← hx]
  clear hx
  refine j_aload_n hX 0 dX2_noteWire_20 rfl rfl ?_
  refine j_getS (k := 1) hX hfl cbX2 ty43 (by decide) rfl wd323 rfl sb43_1 dX2_noteWire_21 ?_
  refine j_iconst hX dX2_noteWire_24 (rc rfl) ?_
  refine j_dup2 hX dX2_noteWire_25 rfl rfl ?_
  refine j_iald hX hE ty44 pc44 (ldk_c (k := 2) (by decide)) dX2_noteWire_26 ?_
  refine j_iload_n hX 2 dX2_noteWire_27 rfl rfl ?_
  refine j_iadd hX dX2_noteWire_28 ?_
  refine j_iast hX hE ty44 pc44 (stk_c (k := 2) (by decide)) dX2_noteWire_29 ?_
  obtain ⟨S6, hx, h⟩ := ap_s h
  rw [← hx]
  clear hx
  refine j_aload_n hX 0 dX2_noteWire_30 rfl rfl ?_
  refine j_getS (k := 1) hX hfl cbX2 ty43 (by decide) rfl wd323 rfl sb43_1 dX2_noteWire_31 ?_
  refine j_iconst hX dX2_noteWire_34 (rc rfl) ?_
  refine j_dup2 hX dX2_noteWire_35 rfl rfl ?_
  refine j_iald hX hE ty44 pc44 (ldk_c (k := 4) (by decide)) dX2_noteWire_36 ?_
  refine j_aload_n hX 0 dX2_noteWire_37 rfl rfl ?_
  refine j_getS (k := 0) hX hfl cbX2 ty43 (by decide) rfl wd322 rfl sb43_0 dX2_noteWire_38 ?_
  refine j_iconst hX dX2_noteWire_41 (rc rfl) ?_
  refine j_bipush hX dX2_noteWire_42 (rc rfl) (by decide) ?_
  obtain ⟨x8, h1, h⟩ := bs h
  refine j_callVI hX mwX5_value miX5_value wd976 cbX5 ty1 hyX5_value (by omega) (by decide) ⟨Nat.zero_le _, Nat.zero_le _⟩ dX2_noteWire_44 (s_X5_value hfl hE h1) npX5_value rfl (Nat.le_of_ble_eq_true rfl) ?_
  refine j_iadd hX dX2_noteWire_47 ?_
  refine j_iast hX hE ty44 pc44 (stk_c (k := 4) (by decide)) dX2_noteWire_48 ?_
  obtain ⟨S9, hx, h⟩ := ap_s h
  rw [← hx]
  clear hx
  cases h
  exact j_vret hX hR dX2_noteWire_49
theorem sl_X2_keepImage_32 {X : K0} {B : Nat → Nat} {n : Nat} {E : Mem → Mem} {r : Int} {S' : Mem} (hX : Ctx X cX2_keepImage "TelegramFeelings$Deeds" 3) (hR : CR X (some .int)) (hfl : (gX X).2.2.2.2 = true) (hnl : X.2.2.2.2.2.2.2.2.2.2.2.2.2.2 = 2) (hE : Lens E PC) {k83 : Mem → Option (Int × Mem)}  (K83 : ∀ (S : Mem), k83 S = some (r, S') → JW X B n 0 0 83 [(0, vR 43)] [] (E S) (QM X (QcI (gX X) B n r (E S')))) : ∀ (fu : Nat) (v1 : Int) (S : Mem), g_X2_keepImage_L32 k83 fu v1 S = some (r, S') → JW X B n 0 0 32 [(0, vR 43), (1, vI (v1))] [] (E S) (QM X (QcI (gX X) B n r (E S'))) := by
  intro fu
  induction fu with
  | zero =>
    intro v1 S h
    rw [g_X2_keepImage_L32] at h
    cases h
  | succ fu ih =>
    intro v1 S h
    rw [g_X2_keepImage_L32] at h
    refine j_iload_n hX 1 dX2_keepImage_32 rfl rfl ?_
    refine j_aload_n hX 0 dX2_keepImage_33 rfl rfl ?_
    refine j_getI (k := 3) hX hE cbX2 ty43 pc43 (by decide) rfl wd326 rfl dX2_keepImage_34 ?_
    refine j_icmp_ge hX (tgt := 83) dX2_keepImage_37 (by decide) (fun hc => ?_) (fun hc => ?_)
    · rw [if_pos hc] at h
      refine j_sub [0] rfl ?_
      exact K83 _ h
    · rw [if_neg hc] at h
      refine j_iload_n hX 1 dX2_keepImage_40 rfl rfl ?_
      refine j_bipush hX dX2_keepImage_41 (rc rfl) (by decide) ?_
      refine j_icmp_ge hX (tgt := 83) dX2_keepImage_43 (by decide) (fun hc => ?_) (fun hc => ?_)
      · rw [if_pos hc] at h
        refine j_sub [0] rfl ?_
        exact K83 _ h
      · rw [if_neg hc] at h
        refine j_aload_n hX 0 dX2_keepImage_46 rfl rfl ?_
        refine j_getS (k := 5) hX hfl cbX2 ty43 (by decide) rfl wd328 rfl sb43_5 dX2_keepImage_47 ?_
        refine j_iload_n hX 1 dX2_keepImage_50 rfl rfl ?_
        refine j_aload_n hX 0 dX2_keepImage_51 rfl rfl ?_
        refine j_getS (k := 0) hX hfl cbX2 ty43 (by decide) rfl wd322 rfl sb43_0 dX2_keepImage_52 ?_
        refine j_iload_n hX 1 dX2_keepImage_55 rfl rfl ?_
        refine j_iconst hX dX2_keepImage_56 (rc rfl) ?_
        obtain ⟨x5, h1, h⟩ := bs h
        refine j_callVI hX mwX5_value miX5_value wd976 cbX5 ty1 hyX5_value (by omega) (by decide) ⟨Nat.zero_le _, Nat.zero_le _⟩ dX2_keepImage_57 (s_X5_value hfl hE h1) npX5_value rfl (Nat.le_of_ble_eq_true rfl) ?_
        obtain ⟨S6, hv, h⟩ := bs h
        refine j_iast hX hE ty45 pc45 hv dX2_keepImage_60 ?_
        refine j_aload_n hX 0 dX2_keepImage_61 rfl rfl ?_
        refine j_getS (k := 6) hX hfl cbX2 ty43 (by decide) rfl wd329 rfl sb43_6 dX2_keepImage_62 ?_
        refine j_iload_n hX 1 dX2_keepImage_65 rfl rfl ?_
        refine j_aload_n hX 0 dX2_keepImage_66 rfl rfl ?_
        refine j_getS (k := 0) hX hfl cbX2 ty43 (by decide) rfl wd322 rfl sb43_0 dX2_keepImage_67 ?_
        refine j_iload_n hX 1 dX2_keepImage_70 rfl rfl ?_
        refine j_bipush hX dX2_keepImage_71 (rc rfl) (by decide) ?_
        obtain ⟨x7, h1, h⟩ := bs h
        refine j_callVI hX mwX5_value miX5_value wd976 cbX5 ty1 hyX5_value (by omega) (by decide) ⟨Nat.zero_le _, Nat.zero_le _⟩ dX2_keepImage_73 (s_X5_value hfl hE h1) npX5_value rfl (Nat.le_of_ble_eq_true rfl) ?_
        obtain ⟨S8, hv, h⟩ := bs h
        refine j_iast hX hE ty46 pc46 hv dX2_keepImage_76 ?_
        refine j_iinc (L' := [(1, vI (w32 (v1 + 1))), (0, vR 43)]) hX 1 dX2_keepImage_77 hnl (by decide) rfl rfl ?_
        refine j_goto hX (tgt := 32) dX2_keepImage_80 (by decide) ?_
        refine j_sub [1, 0] rfl ?_
        exact ih _ _ h
theorem s_X2_keepImage {g : G0} {B : Nat → Nat} {n : Nat} {E : Mem → Mem}  {S : Mem} {r : Int} {S' : Mem} (hfl : g.2.2.2.2 = true) (hE : Lens E PC) (h : g_X2_keepImage S = some (r, S')) : Cn g B n yX2_keepImage cX2_keepImage 2 (some .int) 3 [vR 43] (E S) (QcI g B n r (E S')) := by
  refine Cn.of (by decide +kernel) (Nat.le_of_ble_eq_true rfl) (fun X hg hnl hX hR => ?_)
  subst hg
  have hX : Ctx X cX2_keepImage "TelegramFeelings$Deeds" 3 := hX
  unfold g_X2_keepImage at h
  show JW X B n 0 0 0 [(0, vR 43)] [] (E S) (QM X (QcI (gX X) B n r (E S')))
  refine j_aload_n hX 0 dX2_keepImage_0 rfl rfl ?_
  refine j_iconst hX dX2_keepImage_1 (rc rfl) ?_
  refine j_putI (k := 2) hX hE cbX2 ty43 pc43 (by decide) rfl wd325 rfl (Or.inr ⟨rfl, Or.inr rfl⟩) rfl dX2_keepImage_2 ?_
  obtain ⟨S1, hx, h⟩ := ap_s h
  rw [← hx]
  clear hx
  refine j_aload_n hX 0 dX2_keepImage_5 rfl rfl ?_
  refine j_aload_n hX 0 dX2_keepImage_6 rfl rfl ?_
  refine j_getS (k := 0) hX hfl cbX2 ty43 (by decide) rfl wd322 rfl sb43_0 dX2_keepImage_7 ?_
  refine j_getI (k := 2) hX hE cbX5 ty1 pc1 (by decide) rfl wd146 rfl dX2_keepImage_10 ?_
  refine j_putI (k := 3) hX hE cbX2 ty43 pc43 (by decide) rfl wd326 rfl (Or.inl rfl) rfl dX2_keepImage_13 ?_
  obtain ⟨S2, hx, h⟩ := ap_s h
  rw [← hx]
  clear hx
  refine j_aload_n hX 0 dX2_keepImage_16 rfl rfl ?_
  refine j_aload_n hX 0 dX2_keepImage_17 rfl rfl ?_
  refine j_getS (k := 0) hX hfl cbX2 ty43 (by decide) rfl wd322 rfl sb43_0 dX2_keepImage_18 ?_
  refine j_iconst hX dX2_keepImage_21 (rc rfl) ?_
  refine j_bipush hX dX2_keepImage_22 (rc rfl) (by decide) ?_
  obtain ⟨x3, h1, h⟩ := bs h
  refine j_callVI hX mwX5_value miX5_value wd976 cbX5 ty1 hyX5_value (by omega) (by decide) ⟨Nat.zero_le _, Nat.zero_le _⟩ dX2_keepImage_24 (s_X5_value hfl hE h1) npX5_value rfl (Nat.le_of_ble_eq_true rfl) ?_
  refine j_putI (k := 4) hX hE cbX2 ty43 pc43 (by decide) rfl wd327 rfl (Or.inl rfl) rfl dX2_keepImage_27 ?_
  obtain ⟨S4, hx, h⟩ := ap_s h
  rw [← hx]
  clear hx
  refine j_iconst hX dX2_keepImage_30 (rc rfl) ?_
  refine j_istore_n (L' := [(1, vI (0)), (0, vR 43)]) hX dX2_keepImage_31 rfl hnl (by decide) rfl ?_
  refine j_sub [1, 0] rfl ?_
  refine sl_X2_keepImage_32 hX hR hfl hnl hE (fun S9 h => ?_) _ _ _ h
  refine j_aload_n hX 0 dX2_keepImage_83 rfl rfl ?_
  refine j_getS (k := 1) hX hfl cbX2 ty43 (by decide) rfl wd323 rfl sb43_1 dX2_keepImage_84 ?_
  refine j_iconst hX dX2_keepImage_87 (rc rfl) ?_
  refine j_aload_n hX 0 dX2_keepImage_88 rfl rfl ?_
  refine j_getS (k := 7) hX hfl cbX2 ty43 (by decide) rfl wd330 rfl sb43_7 dX2_keepImage_89 ?_
  refine j_iconst hX dX2_keepImage_92 (rc rfl) ?_
  refine j_aload_n hX 0 dX2_keepImage_93 rfl rfl ?_
  refine j_getS (k := 1) hX hfl cbX2 ty43 (by decide) rfl wd323 rfl sb43_1 dX2_keepImage_94 ?_
  refine j_alen (z := 5) hX ty44 (by decide) (Or.inl rfl) rfl dX2_keepImage_97 ?_
  obtain ⟨S10, hv, h⟩ := bs h
  refine j_copyI hX hE ty44 ty47 pc44 pc47 (by omega) hv wd993 dX2_keepImage_98 rfl ?_
  refine j_aload_n hX 0 dX2_keepImage_101 rfl rfl ?_
  refine j_getS (k := 1) hX hfl cbX2 ty43 (by decide) rfl wd323 rfl sb43_1 dX2_keepImage_102 ?_
  refine j_iconst hX dX2_keepImage_105 (rc rfl) ?_
  refine j_iald hX hE ty44 pc44 (ldk_c (k := 0) (by decide)) dX2_keepImage_106 ?_
  cases h
  exact j_iret hX hR dX2_keepImage_107
theorem sl_X2_layBack_26 {X : K0} {B : Nat → Nat} {n : Nat} {E : Mem → Mem} {r : Int} {S' : Mem} (hX : Ctx X cX2_layBack "TelegramFeelings$Deeds" 3) (hR : CR X (some .int)) (hfl : (gX X).2.2.2.2 = true) (hnl : X.2.2.2.2.2.2.2.2.2.2.2.2.2.2 = 2) (hE : Lens E PC) {k77 : Mem → Option (Int × Mem)}  (K77 : ∀ (S : Mem), k77 S = some (r, S') → JW X B n 0 0 77 [(0, vR 43)] [] (E S) (QM X (QcI (gX X) B n r (E S')))) : ∀ (fu : Nat) (v1 : Int) (S : Mem), g_X2_layBack_L26 k77 fu v1 S = some (r, S') → JW X B n 0 0 26 [(0, vR 43), (1, vI (v1))] [] (E S) (QM X (QcI (gX X) B n r (E S'))) := by
  intro fu
  induction fu with
  | zero =>
    intro v1 S h
    rw [g_X2_layBack_L26] at h
    cases h
  | succ fu ih =>
    intro v1 S h
    rw [g_X2_layBack_L26] at h
    refine j_iload_n hX 1 dX2_layBack_26 rfl rfl ?_
    refine j_aload_n hX 0 dX2_layBack_27 rfl rfl ?_
    refine j_getI (k := 3) hX hE cbX2 ty43 pc43 (by decide) rfl wd326 rfl dX2_layBack_28 ?_
    refine j_icmp_ge hX (tgt := 77) dX2_layBack_31 (by decide) (fun hc => ?_) (fun hc => ?_)
    · rw [if_pos hc] at h
      refine j_sub [0] rfl ?_
      exact K77 _ h
    · rw [if_neg hc] at h
      refine j_iload_n hX 1 dX2_layBack_34 rfl rfl ?_
      refine j_bipush hX dX2_layBack_35 (rc rfl) (by decide) ?_
      refine j_icmp_ge hX (tgt := 77) dX2_layBack_37 (by decide) (fun hc => ?_) (fun hc => ?_)
      · rw [if_pos hc] at h
        refine j_sub [0] rfl ?_
        exact K77 _ h
      · rw [if_neg hc] at h
        refine j_aload_n hX 0 dX2_layBack_40 rfl rfl ?_
        refine j_getS (k := 0) hX hfl cbX2 ty43 (by decide) rfl wd322 rfl sb43_0 dX2_layBack_41 ?_
        refine j_iload_n hX 1 dX2_layBack_44 rfl rfl ?_
        refine j_iconst hX dX2_layBack_45 (rc rfl) ?_
        refine j_aload_n hX 0 dX2_layBack_46 rfl rfl ?_
        refine j_getS (k := 5) hX hfl cbX2 ty43 (by decide) rfl wd328 rfl sb43_5 dX2_layBack_47 ?_
        refine j_iload_n hX 1 dX2_layBack_50 rfl rfl ?_
        obtain ⟨x2, hv, h⟩ := bs h
        refine j_iald hX hE ty45 pc45 hv dX2_layBack_51 ?_
        obtain ⟨S3, h1, h⟩ := bs h
        refine j_callVV hX mwX5_set miX5_set wd1002 cbX5 ty1 hyX5_set (by omega) (by decide) ⟨Nat.zero_le _, Nat.zero_le _⟩ dX2_layBack_52 (s_X5_set hfl hE h1) npX5_set rfl (Nat.le_of_ble_eq_true rfl) ?_
        refine j_aload_n hX 0 dX2_layBack_55 rfl rfl ?_
        refine j_getS (k := 0) hX hfl cbX2 ty43 (by decide) rfl wd322 rfl sb43_0 dX2_layBack_56 ?_
        refine j_iload_n hX 1 dX2_layBack_59 rfl rfl ?_
        refine j_bipush hX dX2_layBack_60 (rc rfl) (by decide) ?_
        refine j_aload_n hX 0 dX2_layBack_62 rfl rfl ?_
        refine j_getS (k := 6) hX hfl cbX2 ty43 (by decide) rfl wd329 rfl sb43_6 dX2_layBack_63 ?_
        refine j_iload_n hX 1 dX2_layBack_66 rfl rfl ?_
        obtain ⟨x4, hv, h⟩ := bs h
        refine j_iald hX hE ty46 pc46 hv dX2_layBack_67 ?_
        obtain ⟨S5, h1, h⟩ := bs h
        refine j_callVV hX mwX5_set miX5_set wd1002 cbX5 ty1 hyX5_set (by omega) (by decide) ⟨Nat.zero_le _, Nat.zero_le _⟩ dX2_layBack_68 (s_X5_set hfl hE h1) npX5_set rfl (Nat.le_of_ble_eq_true rfl) ?_
        refine j_iinc (L' := [(1, vI (w32 (v1 + 1))), (0, vR 43)]) hX 1 dX2_layBack_71 hnl (by decide) rfl rfl ?_
        refine j_goto hX (tgt := 26) dX2_layBack_74 (by decide) ?_
        refine j_sub [1, 0] rfl ?_
        exact ih _ _ h
theorem s_X2_layBack {g : G0} {B : Nat → Nat} {n : Nat} {E : Mem → Mem}  {S : Mem} {r : Int} {S' : Mem} (hfl : g.2.2.2.2 = true) (hE : Lens E PC) (h : g_X2_layBack S = some (r, S')) : Cn g B n yX2_layBack cX2_layBack 2 (some .int) 3 [vR 43] (E S) (QcI g B n r (E S')) := by
  refine Cn.of (by decide +kernel) (Nat.le_of_ble_eq_true rfl) (fun X hg hnl hX hR => ?_)
  subst hg
  have hX : Ctx X cX2_layBack "TelegramFeelings$Deeds" 3 := hX
  unfold g_X2_layBack at h
  show JW X B n 0 0 0 [(0, vR 43)] [] (E S) (QM X (QcI (gX X) B n r (E S')))
  refine j_aload_n hX 0 dX2_layBack_0 rfl rfl ?_
  refine j_getI (k := 2) hX hE cbX2 ty43 pc43 (by decide) rfl wd325 rfl dX2_layBack_1 ?_
  refine j_if_ne hX (tgt := 10) dX2_layBack_4 (by decide) (fun hc => ?_) (fun hc => ?_)
  · rw [if_neg hc] at h
    refine j_aload_n hX 0 dX2_layBack_10 rfl rfl ?_
    refine j_getS (k := 0) hX hfl cbX2 ty43 (by decide) rfl wd322 rfl sb43_0 dX2_layBack_11 ?_
    refine j_iconst hX dX2_layBack_14 (rc rfl) ?_
    refine j_bipush hX dX2_layBack_15 (rc rfl) (by decide) ?_
    refine j_aload_n hX 0 dX2_layBack_17 rfl rfl ?_
    refine j_getI (k := 4) hX hE cbX2 ty43 pc43 (by decide) rfl wd327 rfl dX2_layBack_18 ?_
    obtain ⟨S1, h1, h⟩ := bs h
    refine j_callVV hX mwX5_set miX5_set wd1002 cbX5 ty1 hyX5_set (by omega) (by decide) ⟨Nat.zero_le _, Nat.zero_le _⟩ dX2_layBack_21 (s_X5_set hfl hE h1) npX5_set rfl (Nat.le_of_ble_eq_true rfl) ?_
    refine j_iconst hX dX2_layBack_24 (rc rfl) ?_
    refine j_istore_n (L' := [(1, vI (0)), (0, vR 43)]) hX dX2_layBack_25 rfl hnl (by decide) rfl ?_
    refine j_sub [1, 0] rfl ?_
    refine sl_X2_layBack_26 hX hR hfl hnl hE (fun S6 h => ?_) _ _ _ h
    refine j_aload_n hX 0 dX2_layBack_77 rfl rfl ?_
    refine j_getS (k := 7) hX hfl cbX2 ty43 (by decide) rfl wd330 rfl sb43_7 dX2_layBack_78 ?_
    refine j_iconst hX dX2_layBack_81 (rc rfl) ?_
    refine j_aload_n hX 0 dX2_layBack_82 rfl rfl ?_
    refine j_getS (k := 1) hX hfl cbX2 ty43 (by decide) rfl wd323 rfl sb43_1 dX2_layBack_83 ?_
    refine j_iconst hX dX2_layBack_86 (rc rfl) ?_
    refine j_aload_n hX 0 dX2_layBack_87 rfl rfl ?_
    refine j_getS (k := 1) hX hfl cbX2 ty43 (by decide) rfl wd323 rfl sb43_1 dX2_layBack_88 ?_
    refine j_alen (z := 5) hX ty44 (by decide) (Or.inl rfl) rfl dX2_layBack_91 ?_
    obtain ⟨S7, hv, h⟩ := bs h
    refine j_copyI hX hE ty47 ty44 pc47 pc44 (by omega) hv wd993 dX2_layBack_92 rfl ?_
    refine j_aload_n hX 0 dX2_layBack_95 rfl rfl ?_
    refine j_getS (k := 1) hX hfl cbX2 ty43 (by decide) rfl wd323 rfl sb43_1 dX2_layBack_96 ?_
    refine j_iconst hX dX2_layBack_99 (rc rfl) ?_
    refine j_iald hX hE ty44 pc44 (ldk_c (k := 0) (by decide)) dX2_layBack_100 ?_
    cases h
    exact j_iret hX hR dX2_layBack_101
  · rw [if_pos hc] at h
    refine j_bipush hX dX2_layBack_7 (rc rfl) (by decide) ?_
    cases h
    exact j_iret hX hR dX2_layBack_9
theorem s_X3_size {g : G0} {B : Nat → Nat} {n : Nat} {E : Mem → Mem}  {S : Mem} {r : Int} (hfl : g.2.2.2.2 = true) (hE : Lens E PC) (h : g_X3_size S = r) : Cn g B n yX3_size cX3_size 1 (some .int) 2 [vR 38] (E S) (QcI g B n r (E S)) := by
  refine Cn.of (by decide +kernel) (Nat.le_of_ble_eq_true rfl) (fun X hg hnl hX hR => ?_)
  subst hg
  have hX : Ctx X cX3_size "TelegramFeelings$Hearing" 2 := hX
  unfold g_X3_size at h
  show JW X B n 0 0 0 [(0, vR 38)] [] (E S) (QM X (QcI (gX X) B n r (E S)))
  refine j_bipush hX dX3_size_0 (rc rfl) (by decide) ?_
  refine j_aload_n hX 0 dX3_size_2 rfl rfl ?_
  refine j_getS (k := 1) hX hfl cbX3 ty38 (by decide) rfl wd298 rfl sb38_1 dX3_size_3 ?_
  refine j_getI (k := 5) hX hE cbX8 ty30 pc30 (by decide) rfl wd251 rfl dX3_size_6 ?_
  refine j_mmin hX wd849 (by omega) ⟨Nat.zero_le _, Nat.zero_le _⟩ dX3_size_9 rfl ?_
  subst h
  exact j_iret hX hR dX3_size_12
theorem s_X3_oddsOf {g : G0} {B : Nat → Nat} {n : Nat} {E : Mem → Mem} {a1 : Int} {a2 : Int} {S : Mem} {r : Int} (hfl : g.2.2.2.2 = true) (hE : Lens E PC) (h : g_X3_oddsOf a1 a2 S = some r) : Cn g B n yX3_oddsOf cX3_oddsOf 4 (some .int) 3 [vR 38, vI (a1), vI (a2)] (E S) (QcI g B n r (E S)) := by
  refine Cn.of (by decide +kernel) (Nat.le_of_ble_eq_true rfl) (fun X hg hnl hX hR => ?_)
  subst hg
  have hX : Ctx X cX3_oddsOf "TelegramFeelings$Hearing" 3 := hX
  unfold g_X3_oddsOf at h
  show JW X B n 0 0 0 [(0, vR 38), (1, vI (a1)), (2, vI (a2))] [] (E S) (QM X (QcI (gX X) B n r (E S)))
  refine j_aload_n hX 0 dX3_oddsOf_0 rfl rfl ?_
  refine j_getS (k := 0) hX hfl cbX3 ty38 (by decide) rfl wd297 rfl sb38_0 dX3_oddsOf_1 ?_
  refine j_iconst hX dX3_oddsOf_4 (rc rfl) ?_
  refine j_bipush hX dX3_oddsOf_5 (rc rfl) (by decide) ?_
  obtain ⟨x1, h1, h⟩ := bs h
  refine j_callVI hX mwX5_value miX5_value wd858 cbX5 ty1 hyX5_value (by omega) (by decide) ⟨Nat.zero_le _, Nat.zero_le _⟩ dX3_oddsOf_7 (s_X5_value hfl hE h1) npX5_value rfl (Nat.le_of_ble_eq_true rfl) ?_
  refine j_istore_n (L' := [(3, vI (x1)), (0, vR 38), (1, vI (a1)), (2, vI (a2))]) hX dX3_oddsOf_10 rfl hnl (by decide) rfl ?_
  refine j_iload_n hX 2 dX3_oddsOf_11 rfl rfl ?_
  refine j_iload_n hX 3 dX3_oddsOf_12 rfl rfl ?_
  refine j_icmp_ne hX (tgt := 23) dX3_oddsOf_13 (by decide) (fun hc => ?_) (fun hc => ?_)
  · rw [if_neg hc] at h
    refine j_iconst hX dX3_oddsOf_23 (rc rfl) ?_
    refine j_aload_n hX 1 dX3_oddsOf_24 rfl rfl ?_
    refine j_getS (k := 0) hX hfl cbX3 ty38 (by decide) rfl wd297 rfl sb38_0 dX3_oddsOf_25 ?_
    refine j_iload_n hX 2 dX3_oddsOf_28 rfl rfl ?_
    refine j_iconst hX dX3_oddsOf_29 (rc rfl) ?_
    obtain ⟨x2, h1, h⟩ := bs h
    refine j_callVI hX mwX5_value miX5_value wd858 cbX5 ty1 hyX5_value (by omega) (by decide) ⟨Nat.zero_le _, Nat.zero_le _⟩ dX3_oddsOf_30 (s_X5_value hfl hE h1) npX5_value rfl (Nat.le_of_ble_eq_true rfl) ?_
    refine j_iload_n hX 3 dX3_oddsOf_33 rfl rfl ?_
    refine j_icmp_ne hX (tgt := 41) dX3_oddsOf_34 (by decide) (fun hc => ?_) (fun hc => ?_)
    · rw [if_neg hc] at h
      refine j_iconst hX dX3_oddsOf_41 (rc rfl) ?_
      refine j_iadd hX dX3_oddsOf_42 ?_
      cases h
      exact j_iret hX hR dX3_oddsOf_43
    · rw [if_pos hc] at h
      refine j_iload_n hX 0 dX3_oddsOf_37 rfl rfl ?_
      refine j_goto hX (tgt := 42) dX3_oddsOf_38 (by decide) ?_
      refine j_iadd hX dX3_oddsOf_42 ?_
      cases h
      exact j_iret hX hR dX3_oddsOf_43
  · rw [if_pos hc] at h
    refine j_bipush hX dX3_oddsOf_16 (rc rfl) (by decide) ?_
    refine j_iload_n hX 0 dX3_oddsOf_18 rfl rfl ?_
    refine j_isub hX dX3_oddsOf_19 ?_
    refine j_goto hX (tgt := 24) dX3_oddsOf_20 (by decide) ?_
    refine j_aload_n hX 1 dX3_oddsOf_24 rfl rfl ?_
    refine j_getS (k := 0) hX hfl cbX3 ty38 (by decide) rfl wd297 rfl sb38_0 dX3_oddsOf_25 ?_
    refine j_iload_n hX 2 dX3_oddsOf_28 rfl rfl ?_
    refine j_iconst hX dX3_oddsOf_29 (rc rfl) ?_
    obtain ⟨x3, h1, h⟩ := bs h
    refine j_callVI hX mwX5_value miX5_value wd858 cbX5 ty1 hyX5_value (by omega) (by decide) ⟨Nat.zero_le _, Nat.zero_le _⟩ dX3_oddsOf_30 (s_X5_value hfl hE h1) npX5_value rfl (Nat.le_of_ble_eq_true rfl) ?_
    refine j_iload_n hX 3 dX3_oddsOf_33 rfl rfl ?_
    refine j_icmp_ne hX (tgt := 41) dX3_oddsOf_34 (by decide) (fun hc => ?_) (fun hc => ?_)
    · rw [if_neg hc] at h
      refine j_iconst hX dX3_oddsOf_41 (rc rfl) ?_
      refine j_iadd hX dX3_oddsOf_42 ?_
      cases h
      exact j_iret hX hR dX3_oddsOf_43
    · rw [if_pos hc] at h
      refine j_iload_n hX 0 dX3_oddsOf_37 rfl rfl ?_
      refine j_goto hX (tgt := 42) dX3_oddsOf_38 (by decide) ?_
      refine j_iadd hX dX3_oddsOf_42 ?_
      cases h
      exact j_iret hX hR dX3_oddsOf_43
theorem sl_J7_fill_d0a16_6 {X : K0} {B : Nat → Nat} {n : Nat} {E : Mem → Mem} {S' : Mem} (hX : Ctx X cJ7_fill_d0a16 "java/util/Arrays" 1) (hR : CR X none) (hnl : X.2.2.2.2.2.2.2.2.2.2.2.2.2.2 = 5) (hE : Lens E PC)  {v0 : Nat} {v1 : Int} {v4 : Int}  : ∀ (fu : Nat) (v3 : Int) (S : Mem), g_J7_fill_d0a16_L6 v0 v1 v4 fu v3 S = some S' → JW X B n 0 0 6 [(0, vR v0), (1, vL (v1)), (3, vI (v3)), (4, vI (v4))] [] (E S) (QM X (QcV (gX X) B n (E S'))) := by
  intro fu
  induction fu with
  | zero =>
    intro v3 S h
    rw [g_J7_fill_d0a16_L6] at h
    cases h
  | succ fu ih =>
    intro v3 S h
    rw [g_J7_fill_d0a16_L6] at h
    refine j_iload_n hX 2 dJ7_fill_d0a16_6 rfl rfl ?_
    refine j_iload hX 3 dJ7_fill_d0a16_7 rfl ?_
    refine j_icmp_ge hX (tgt := 22) dJ7_fill_d0a16_9 (by decide) (fun hc => ?_) (fun hc => ?_)
    · rw [if_pos hc] at h
      cases h
      exact j_vret hX hR dJ7_fill_d0a16_22
    · rw [if_neg hc] at h
      refine j_aload_n hX 0 dJ7_fill_d0a16_12 rfl rfl ?_
      refine j_iload_n hX 2 dJ7_fill_d0a16_13 rfl rfl ?_
      refine j_lload_n hX 1 dJ7_fill_d0a16_14 rfl rfl ?_
      obtain ⟨S2, hv, h⟩ := bs h
      refine j_lastD hX hE (fun _ h => h) hv dJ7_fill_d0a16_15 ?_
      refine j_iinc (L' := [(3, vI (w32 (v3 + 1))), (0, vR v0), (1, vL (v1)), (4, vI (v4))]) hX 2 dJ7_fill_d0a16_16 hnl (by decide) rfl rfl ?_
      refine j_goto hX (tgt := 6) dJ7_fill_d0a16_19 (by decide) ?_
      refine j_sub [1, 2, 0, 3] rfl ?_
      exact ih _ _ h
theorem s_J7_fill_d0a16 {g : G0} {B : Nat → Nat} {n : Nat} {E : Mem → Mem} {a1 : Nat} {a2 : Int} {S : Mem} {S' : Mem} (hE : Lens E PC) (h : g_J7_fill_d0a16 a1 a2 S = some S') : Cn g B n yJ7_fill_d0a16 cJ7_fill_d0a16 5 none 1 [vR a1, vL (a2)] (E S) (QcV g B n (E S')) := by
  refine Cn.of (by decide +kernel) (Nat.le_of_ble_eq_true rfl) (fun X hg hnl hX hR => ?_)
  subst hg
  have hX : Ctx X cJ7_fill_d0a16 "java/util/Arrays" 1 := hX
  unfold g_J7_fill_d0a16 at h
  show JW X B n 0 0 0 [(0, vR a1), (1, vL (a2))] [] (E S) (QM X (QcV (gX X) B n (E S')))
  refine j_iconst hX dJ7_fill_d0a16_0 (rc rfl) ?_
  refine j_istore_n (L' := [(3, vI (0)), (0, vR a1), (1, vL (a2))]) hX dJ7_fill_d0a16_1 rfl hnl (by decide) rfl ?_
  refine j_aload_n hX 1 dJ7_fill_d0a16_2 rfl rfl ?_
  obtain ⟨x1, hv, h⟩ := bs h
  refine j_alenD hX (Or.inr rfl) hv dJ7_fill_d0a16_3 ?_
  refine j_istore (L' := [(4, vI (x1)), (3, vI (0)), (0, vR a1), (1, vL (a2))]) hX dJ7_fill_d0a16_4 hnl (by decide) rfl ?_
  refine j_sub [2, 3, 1, 0] rfl ?_
  refine sl_J7_fill_d0a16_6 hX hR hnl hE  _ _ _ h
theorem s_X3_begin {g : G0} {B : Nat → Nat} {n : Nat} {E : Mem → Mem}  {S : Mem} {S' : Mem} (hfl : g.2.2.2.2 = true) (hE : Lens E PC) (h : g_X3_begin S = some S') : Cn g B n yX3_begin cX3_begin 1 none 2 [vR 38] (E S) (QcV g B n (E S')) := by
  refine Cn.of (by decide +kernel) (Nat.le_of_ble_eq_true rfl) (fun X hg hnl hX hR => ?_)
  subst hg
  have hX : Ctx X cX3_begin "TelegramFeelings$Hearing" 2 := hX
  unfold g_X3_begin at h
  show JW X B n 0 0 0 [(0, vR 38)] [] (E S) (QM X (QcV (gX X) B n (E S')))
  refine j_aload_n hX 0 dX3_begin_0 rfl rfl ?_
  obtain ⟨q1, hg, h⟩ := bs h
  refine j_getR (k := 2) hX hE cbX3 ty38 pc38 (by decide) rfl wd299 rfl hg dX3_begin_1 ?_
  refine j_lconst (z := 0) hX dX3_begin_4 rfl (rcl rfl) ?_
  obtain ⟨S2, h1, h⟩ := bs h
  refine j_callSV hX mwJ7_fill_d0a16 msJ7_fill_d0a16 wd844 hyJ7_fill_d0a16 (by omega) (by decide) ⟨Nat.zero_le _, Nat.zero_le _⟩ dX3_begin_5 (s_J7_fill_d0a16 hE h1) npJ7_fill_d0a16 rfl (Nat.le_of_ble_eq_true rfl) ?_
  refine j_aload_n hX 0 dX3_begin_8 rfl rfl ?_
  obtain ⟨q3, hg, h⟩ := bs h
  refine j_getR (k := 2) hX hE cbX3 ty38 pc38 (by decide) rfl wd299 rfl hg dX3_begin_9 ?_
  refine j_iconst hX dX3_begin_12 (rc rfl) ?_
  refine j_lconst (z := 1) hX dX3_begin_13 rfl (rcl rfl) ?_
  obtain ⟨S4, hv, h⟩ := bs h
  refine j_lastD hX hE (fun _ h => h) hv dX3_begin_14 ?_
  refine j_aload_n hX 0 dX3_begin_15 rfl rfl ?_
  obtain ⟨q5, hg, h⟩ := bs h
  refine j_getR (k := 4) hX hE cbX3 ty38 pc38 (by decide) rfl wd301 rfl hg dX3_begin_16 ?_
  refine j_iconst hX dX3_begin_19 (rc rfl) ?_
  refine j_iconst hX dX3_begin_20 (rc rfl) ?_
  obtain ⟨S6, hv, h⟩ := bs h
  refine j_iastD hX hE (fun _ h => h) hv dX3_begin_21 ?_
  cases h
  exact j_vret hX hR dX3_begin_22
theorem s_X3_swap {g : G0} {B : Nat → Nat} {n : Nat} {E : Mem → Mem}  {S : Mem} {S' : Mem} (hfl : g.2.2.2.2 = true) (hE : Lens E PC) (h : g_X3_swap S = some S') : Cn g B n yX3_swap cX3_swap 3 none 1 [vR 38] (E S) (QcV g B n (E S')) := by
  refine Cn.of (by decide +kernel) (Nat.le_of_ble_eq_true rfl) (fun X hg hnl hX hR => ?_)
  subst hg
  have hX : Ctx X cX3_swap "TelegramFeelings$Hearing" 1 := hX
  unfold g_X3_swap at h
  show JW X B n 0 0 0 [(0, vR 38)] [] (E S) (QM X (QcV (gX X) B n (E S')))
  refine j_aload_n hX 0 dX3_swap_0 rfl rfl ?_
  obtain ⟨q1, hg, h⟩ := bs h
  refine j_getR (k := 2) hX hE cbX3 ty38 pc38 (by decide) rfl wd299 rfl hg dX3_swap_1 ?_
  refine j_astore_n (L' := [(1, vR q1), (0, vR 38)]) hX dX3_swap_4 rfl hnl (by decide) rfl ?_
  refine j_aload_n hX 1 dX3_swap_5 rfl rfl ?_
  refine j_aload_n hX 1 dX3_swap_6 rfl rfl ?_
  obtain ⟨q2, hg, h⟩ := bs h
  refine j_getR (k := 3) hX hE cbX3 ty38 pc38 (by decide) rfl wd300 rfl hg dX3_swap_7 ?_
  refine j_putR (k := 2) hX hE cbX3 ty38 pc38 (by decide) rfl wd299 rfl (fun _ => rfl) (fun _ => rfl) (fun _ => by decide +kernel) rfl dX3_swap_10 ?_
  obtain ⟨S3, hx, h⟩ := ap_s h
  rw [← hx]
  clear hx
  refine j_aload_n hX 1 dX3_swap_13 rfl rfl ?_
  refine j_aload_n hX 0 dX3_swap_14 rfl rfl ?_
  refine j_putR (k := 3) hX hE cbX3 ty38 pc38 (by decide) rfl wd300 rfl (fun _ => rfl) (fun _ => rfl) (fun _ => by decide +kernel) rfl dX3_swap_15 ?_
  obtain ⟨S4, hx, h⟩ := ap_s h
  rw [← hx]
  clear hx
  refine j_aload_n hX 1 dX3_swap_18 rfl rfl ?_
  obtain ⟨q5, hg, h⟩ := bs h
  refine j_getR (k := 4) hX hE cbX3 ty38 pc38 (by decide) rfl wd301 rfl hg dX3_swap_19 ?_
  refine j_astore_n (L' := [(2, vR q5), (1, vR q1), (0, vR 38)]) hX dX3_swap_22 rfl hnl (by decide) rfl ?_
  refine j_aload_n hX 2 dX3_swap_23 rfl rfl ?_
  refine j_aload_n hX 2 dX3_swap_24 rfl rfl ?_
  obtain ⟨q6, hg, h⟩ := bs h
  refine j_getR (k := 5) hX hE cbX3 ty38 pc38 (by decide) rfl wd302 rfl hg dX3_swap_25 ?_
  refine j_putR (k := 4) hX hE cbX3 ty38 pc38 (by decide) rfl wd301 rfl (fun _ => rfl) (fun _ => rfl) (fun _ => by decide +kernel) rfl dX3_swap_28 ?_
  obtain ⟨S7, hx, h⟩ := ap_s h
  rw [← hx]
  clear hx
  refine j_aload_n hX 2 dX3_swap_31 rfl rfl ?_
  refine j_aload_n hX 0 dX3_swap_32 rfl rfl ?_
  refine j_putR (k := 5) hX hE cbX3 ty38 pc38 (by decide) rfl wd302 rfl (fun _ => rfl) (fun _ => rfl) (fun _ => by decide +kernel) rfl dX3_swap_33 ?_
  obtain ⟨S8, hx, h⟩ := ap_s h
  rw [← hx]
  clear hx
  cases h
  exact j_vret hX hR dX3_swap_36
theorem s_X8_follows {g : G0} {B : Nat → Nat} {n : Nat} {M : Mem} {a1 : Int} {a2 : Int} {r : Int} (hfl : g.2.2.2.2 = true) (h : g_X8_follows a1 a2 = r) : Cn g B n yX8_follows cX8_follows 2 (some .boolean) 1 [vI (a1), vI (a2)] M (QcI g B n r M) := by
  refine Cn.of (by decide +kernel) (Nat.le_of_ble_eq_true rfl) (fun X hg hnl hX hR => ?_)
  subst hg
  have hX : Ctx X cX8_follows "TelegramFeelings$Telegram" 1 := hX
  unfold g_X8_follows at h
  show JW X B n 0 0 0 [(0, vI (a1)), (1, vI (a2))] [] (M) (QM X (QcI (gX X) B n r M))
  refine j_iload_n hX 0 dX8_follows_0 rfl rfl ?_
  refine j_iconst hX dX8_follows_1 (rc rfl) ?_
  refine j_icmp_ne hX (tgt := 15) dX8_follows_2 (by decide) (fun hc => ?_) (fun hc => ?_)
  · rw [if_neg hc] at h
    refine j_iload_n hX 1 dX8_follows_15 rfl rfl ?_
    refine j_iconst hX dX8_follows_16 (rc rfl) ?_
    refine j_icmp_eq hX (tgt := 29) dX8_follows_17 (by decide) (fun hc => ?_) (fun hc => ?_)
    · rw [if_pos hc] at h
      refine j_iconst hX dX8_follows_29 (rc rfl) ?_
      refine j_goto hX (tgt := 34) dX8_follows_30 (by decide) ?_
      subst h
      exact j_zret hX hR (Or.inr rfl) dX8_follows_34
    · rw [if_neg hc] at h
      refine j_iload_n hX 1 dX8_follows_20 rfl rfl ?_
      refine j_iconst hX dX8_follows_21 (rc rfl) ?_
      refine j_icmp_ne hX (tgt := 33) dX8_follows_22 (by decide) (fun hc => ?_) (fun hc => ?_)
      · rw [if_neg hc] at h
        refine j_iconst hX dX8_follows_33 (rc rfl) ?_
        subst h
        exact j_zret hX hR (Or.inl rfl) dX8_follows_34
      · rw [if_pos hc] at h
        refine j_iload_n hX 0 dX8_follows_25 rfl rfl ?_
        refine j_if_eq hX (tgt := 33) dX8_follows_26 (by decide) (fun hc => ?_) (fun hc => ?_)
        · rw [if_pos hc] at h
          refine j_iconst hX dX8_follows_33 (rc rfl) ?_
          subst h
          exact j_zret hX hR (Or.inl rfl) dX8_follows_34
        · rw [if_neg hc] at h
          refine j_iconst hX dX8_follows_29 (rc rfl) ?_
          refine j_goto hX (tgt := 34) dX8_follows_30 (by decide) ?_
          subst h
          exact j_zret hX hR (Or.inr rfl) dX8_follows_34
  · rw [if_pos hc] at h
    refine j_iload_n hX 1 dX8_follows_5 rfl rfl ?_
    refine j_if_ne hX (tgt := 13) dX8_follows_6 (by decide) (fun hc => ?_) (fun hc => ?_)
    · rw [if_neg hc] at h
      refine j_iconst hX dX8_follows_13 (rc rfl) ?_
      subst h
      exact j_zret hX hR (Or.inl rfl) dX8_follows_14
    · rw [if_pos hc] at h
      refine j_iconst hX dX8_follows_9 (rc rfl) ?_
      refine j_goto hX (tgt := 14) dX8_follows_10 (by decide) ?_
      subst h
      exact j_zret hX hR (Or.inr rfl) dX8_follows_14
theorem sl_X3_addWord_13 {X : K0} {B : Nat → Nat} {n : Nat} {E : Mem → Mem} {S' : Mem} (hX : Ctx X cX3_addWord "TelegramFeelings$Hearing" 3) (hR : CR X none) (hfl : (gX X).2.2.2.2 = true) (hnl : X.2.2.2.2.2.2.2.2.2.2.2.2.2.2 = 5) (hE : Lens E PC)  {v2 : Int} {v3 : Int}  : ∀ (fu : Nat) (v4 : Int) (S : Mem), g_X3_addWord_L13 v2 v3 fu v4 S = some S' → JW X B n 0 0 13 [(0, vR 38), (2, vI (v2)), (3, vI (v3)), (4, vI (v4))] [] (E S) (QM X (QcV (gX X) B n (E S'))) := by
  intro fu
  induction fu with
  | zero =>
    intro v4 S h
    rw [g_X3_addWord_L13] at h
    cases h
  | succ fu ih =>
    intro v4 S h
    rw [g_X3_addWord_L13] at h
    refine j_iload hX 3 dX3_addWord_13 rfl ?_
    refine j_iconst hX dX3_addWord_15 (rc rfl) ?_
    refine j_icmp_gt hX (tgt := 53) dX3_addWord_16 (by decide) (fun hc => ?_) (fun hc => ?_)
    · rw [if_pos hc] at h
      cases h
      exact j_vret hX hR dX3_addWord_53
    · rw [if_neg hc] at h
      refine j_iload hX 3 dX3_addWord_19 rfl ?_
      refine j_iload_n hX 2 dX3_addWord_21 rfl rfl ?_
      refine j_callSI hX mwX8_follows msX8_follows wd863 hyX8_follows (by omega) (by decide) ⟨Nat.zero_le _, Nat.zero_le _⟩ dX3_addWord_22 (s_X8_follows hfl rfl) npX8_follows rfl (Nat.le_of_ble_eq_true rfl) ?_
      refine j_if_eq hX (tgt := 47) dX3_addWord_25 (by decide) (fun hc => ?_) (fun hc => ?_)
      · rw [if_pos hc] at h
        refine j_iinc (L' := [(4, vI (w32 (v4 + 1))), (0, vR 38), (2, vI (v2)), (3, vI (v3))]) hX 3 dX3_addWord_47 hnl (by decide) rfl rfl ?_
        refine j_goto hX (tgt := 13) dX3_addWord_50 (by decide) ?_
        refine j_sub [1, 2, 3, 0] rfl ?_
        exact ih _ _ h
      · rw [if_neg hc] at h
        refine j_aload_n hX 0 dX3_addWord_28 rfl rfl ?_
        obtain ⟨q2, hg, h⟩ := bs h
        refine j_getR (k := 3) hX hE cbX3 ty38 pc38 (by decide) rfl wd300 rfl hg dX3_addWord_29 ?_
        refine j_iload_n hX 2 dX3_addWord_32 rfl rfl ?_
        refine j_dup2 hX dX3_addWord_33 rfl rfl ?_
        obtain ⟨x3, hv, h⟩ := bs h
        refine j_laldD hX hE (fun _ h => h) hv dX3_addWord_34 ?_
        refine j_aload_n hX 0 dX3_addWord_35 rfl rfl ?_
        obtain ⟨q4, hg, h⟩ := bs h
        refine j_getR (k := 2) hX hE cbX3 ty38 pc38 (by decide) rfl wd299 rfl hg dX3_addWord_36 ?_
        refine j_iload hX 3 dX3_addWord_39 rfl ?_
        obtain ⟨x5, hv, h⟩ := bs h
        refine j_laldD hX hE (fun _ h => h) hv dX3_addWord_41 ?_
        refine j_iload_n hX 1 dX3_addWord_42 rfl rfl ?_
        refine j_i2l hX dX3_addWord_43 ?_
        refine j_lmul hX dX3_addWord_44 ?_
        refine j_ladd hX dX3_addWord_45 ?_
        obtain ⟨S6, hv, h⟩ := bs h
        refine j_lastD hX hE (fun _ h => h) hv dX3_addWord_46 ?_
        refine j_iinc (L' := [(4, vI (w32 (v4 + 1))), (0, vR 38), (2, vI (v2)), (3, vI (v3))]) hX 3 dX3_addWord_47 hnl (by decide) rfl rfl ?_
        refine j_goto hX (tgt := 13) dX3_addWord_50 (by decide) ?_
        refine j_sub [1, 2, 3, 0] rfl ?_
        exact ih _ _ h
theorem s_X3_addWord {g : G0} {B : Nat → Nat} {n : Nat} {E : Mem → Mem} {a1 : Int} {a2 : Int} {S : Mem} {S' : Mem} (hfl : g.2.2.2.2 = true) (hE : Lens E PC) (h : g_X3_addWord a1 a2 S = some S') : Cn g B n yX3_addWord cX3_addWord 5 none 3 [vR 38, vI (a1), vI (a2)] (E S) (QcV g B n (E S')) := by
  refine Cn.of (by decide +kernel) (Nat.le_of_ble_eq_true rfl) (fun X hg hnl hX hR => ?_)
  subst hg
  have hX : Ctx X cX3_addWord "TelegramFeelings$Hearing" 3 := hX
  unfold g_X3_addWord at h
  show JW X B n 0 0 0 [(0, vR 38), (1, vI (a1)), (2, vI (a2))] [] (E S) (QM X (QcV (gX X) B n (E S')))
  refine j_aload_n hX 0 dX3_addWord_0 rfl rfl ?_
  refine j_getS (k := 0) hX hfl cbX3 ty38 (by decide) rfl wd297 rfl sb38_0 dX3_addWord_1 ?_
  refine j_iload_n hX 1 dX3_addWord_4 rfl rfl ?_
  refine j_iconst hX dX3_addWord_5 (rc rfl) ?_
  obtain ⟨x1, h1, h⟩ := bs h
  refine j_callVI hX mwX5_value miX5_value wd858 cbX5 ty1 hyX5_value (by omega) (by decide) ⟨Nat.zero_le _, Nat.zero_le _⟩ dX3_addWord_6 (s_X5_value hfl hE h1) npX5_value rfl (Nat.le_of_ble_eq_true rfl) ?_
  refine j_istore_n (L' := [(3, vI (x1)), (0, vR 38), (1, vI (a1)), (2, vI (a2))]) hX dX3_addWord_9 rfl hnl (by decide) rfl ?_
  refine j_iconst hX dX3_addWord_10 (rc rfl) ?_
  refine j_istore (L' := [(4, vI (0)), (3, vI (x1)), (0, vR 38), (1, vI (a1)), (2, vI (a2))]) hX dX3_addWord_11 hnl (by decide) rfl ?_
  refine j_sub [2, 4, 1, 0] rfl ?_
  refine sl_X3_addWord_13 hX hR hfl hnl hE  _ _ _ h
theorem s_X8_wordAt {g : G0} {B : Nat → Nat} {n : Nat} {E : Mem → Mem} {a1 : Int} {S : Mem} {r : Int} (hfl : g.2.2.2.2 = true) (hE : Lens E PC) (h : g_X8_wordAt a1 S = some r) : Cn g B n yX8_wordAt cX8_wordAt 2 (some .int) 1 [vR 30, vI (a1)] (E S) (QcI g B n r (E S)) := by
  refine Cn.of (by decide +kernel) (Nat.le_of_ble_eq_true rfl) (fun X hg hnl hX hR => ?_)
  subst hg
  have hX : Ctx X cX8_wordAt "TelegramFeelings$Telegram" 1 := hX
  unfold g_X8_wordAt at h
  show JW X B n 0 0 0 [(0, vR 30), (1, vI (a1))] [] (E S) (QM X (QcI (gX X) B n r (E S)))
  refine j_iload_n hX 1 dX8_wordAt_0 rfl rfl ?_
  refine j_if_lt hX (tgt := 27) dX8_wordAt_1 (by decide) (fun hc => ?_) (fun hc => ?_)
  · rw [if_pos hc] at h
    refine j_iconst hX dX8_wordAt_27 (rc rfl) ?_
    cases h
    exact j_iret hX hR dX8_wordAt_28
  · rw [if_neg hc] at h
    refine j_iload_n hX 1 dX8_wordAt_4 rfl rfl ?_
    refine j_aload_n hX 0 dX8_wordAt_5 rfl rfl ?_
    refine j_getI (k := 5) hX hE cbX8 ty30 pc30 (by decide) rfl wd250 rfl dX8_wordAt_6 ?_
    refine j_icmp_ge hX (tgt := 27) dX8_wordAt_9 (by decide) (fun hc => ?_) (fun hc => ?_)
    · rw [if_pos hc] at h
      refine j_iconst hX dX8_wordAt_27 (rc rfl) ?_
      cases h
      exact j_iret hX hR dX8_wordAt_28
    · rw [if_neg hc] at h
      refine j_iload_n hX 1 dX8_wordAt_12 rfl rfl ?_
      refine j_bipush hX dX8_wordAt_13 (rc rfl) (by decide) ?_
      refine j_icmp_ge hX (tgt := 27) dX8_wordAt_15 (by decide) (fun hc => ?_) (fun hc => ?_)
      · rw [if_pos hc] at h
        refine j_iconst hX dX8_wordAt_27 (rc rfl) ?_
        cases h
        exact j_iret hX hR dX8_wordAt_28
      · rw [if_neg hc] at h
        refine j_aload_n hX 0 dX8_wordAt_18 rfl rfl ?_
        refine j_getS (k := 2) hX hfl cbX8 ty30 (by decide) rfl wd247 rfl sb30_2 dX8_wordAt_19 ?_
        refine j_iload_n hX 1 dX8_wordAt_22 rfl rfl ?_
        obtain ⟨x1, hv, h⟩ := bs h
        refine j_iald hX hE ty31 pc31 hv dX8_wordAt_23 ?_
        refine j_goto hX (tgt := 28) dX8_wordAt_24 (by decide) ?_
        cases h
        exact j_iret hX hR dX8_wordAt_28
theorem sl_X3_sum_25 {X : K0} {B : Nat → Nat} {n : Nat} {E : Mem → Mem} {r : Int} {S' : Mem} (hX : Ctx X cX3_sum "TelegramFeelings$Hearing" 4) (hR : CR X (some .long)) (hfl : (gX X).2.2.2.2 = true) (hnl : X.2.2.2.2.2.2.2.2.2.2.2.2.2.2 = 6) (hE : Lens E PC) {k95 : Mem → Option (Int × Mem)} {v1 : Int} {v2 : Int} {v3 : Int} (K95 : ∀ (S : Mem), k95 S = some (r, S') → JW X B n 0 0 95 [(0, vR 38), (1, vI (v1)), (2, vI (v2)), (3, vI (v3))] [] (E S) (QM X (QcL (gX X) B n r (E S')))) : ∀ (fu : Nat) (v4 : Int) (S : Mem), g_X3_sum_L25 k95 v1 v2 v3 fu v4 S = some (r, S') → JW X B n 0 0 25 [(0, vR 38), (1, vI (v1)), (2, vI (v2)), (3, vI (v3)), (4, vI (v4))] [] (E S) (QM X (QcL (gX X) B n r (E S'))) := by
  intro fu
  induction fu with
  | zero =>
    intro v4 S h
    rw [g_X3_sum_L25] at h
    cases h
  | succ fu ih =>
    intro v4 S h
    rw [g_X3_sum_L25] at h
    refine j_iload hX 4 dX3_sum_25 rfl ?_
    refine j_aload_n hX 0 dX3_sum_27 rfl rfl ?_
    refine j_getS (k := 0) hX hfl cbX3 ty38 (by decide) rfl wd297 rfl sb38_0 dX3_sum_28 ?_
    refine j_getI (k := 1) hX hE cbX5 ty1 pc1 (by decide) rfl wd142 rfl dX3_sum_31 ?_
    refine j_icmp_ge hX (tgt := 95) dX3_sum_34 (by decide) (fun hc => ?_) (fun hc => ?_)
    · rw [if_pos hc] at h
      refine j_sub [0, 1, 2, 3] rfl ?_
      exact K95 _ h
    · rw [if_neg hc] at h
      refine j_aload_n hX 0 dX3_sum_37 rfl rfl ?_
      refine j_iload hX 4 dX3_sum_38 rfl ?_
      refine j_aload_n hX 0 dX3_sum_40 rfl rfl ?_
      refine j_getS (k := 1) hX hfl cbX3 ty38 (by decide) rfl wd298 rfl sb38_1 dX3_sum_41 ?_
      refine j_iload_n hX 3 dX3_sum_44 rfl rfl ?_
      obtain ⟨x4, h1, h⟩ := bs h
      refine j_callVI hX mwX8_wordAt miX8_wordAt wd850 cbX8 ty30 hyX8_wordAt (by omega) (by decide) ⟨Nat.zero_le _, Nat.zero_le _⟩ dX3_sum_45 (s_X8_wordAt hfl hE h1) npX8_wordAt rfl (Nat.le_of_ble_eq_true rfl) ?_
      obtain ⟨x5, h1, h⟩ := bs h
      refine j_callVI hX mwX3_oddsOf miX3_oddsOf wd854 cbX3 ty38 hyX3_oddsOf (by omega) (by decide) ⟨Nat.zero_le _, Nat.zero_le _⟩ dX3_sum_48 (s_X3_oddsOf hfl hE h1) npX3_oddsOf rfl (Nat.le_of_ble_eq_true rfl) ?_
      refine j_istore (L' := [(5, vI (x5)), (0, vR 38), (1, vI (v1)), (2, vI (v2)), (3, vI (v3)), (4, vI (v4))]) hX dX3_sum_51 hnl (by decide) rfl ?_
      refine j_aload_n hX 1 dX3_sum_53 rfl rfl ?_
      refine j_getS (k := 0) hX hfl cbX3 ty38 (by decide) rfl wd297 rfl sb38_0 dX3_sum_54 ?_
      refine j_iload hX 5 dX3_sum_57 rfl ?_
      refine j_iconst hX dX3_sum_59 (rc rfl) ?_
      obtain ⟨x6, h1, h⟩ := bs h
      refine j_callVI hX mwX5_value miX5_value wd858 cbX5 ty1 hyX5_value (by omega) (by decide) ⟨Nat.zero_le _, Nat.zero_le _⟩ dX3_sum_60 (s_X5_value hfl hE h1) npX5_value rfl (Nat.le_of_ble_eq_true rfl) ?_
      refine j_iload_n hX 2 dX3_sum_63 rfl rfl ?_
      refine j_iand hX dX3_sum_64 ?_
      refine j_if_ne hX (tgt := 89) dX3_sum_65 (by decide) (fun hc => ?_) (fun hc => ?_)
      · rw [if_neg hc] at h
        refine j_iinc (L' := [(4, vI (w32 (v4 + 1))), (5, vI (x5)), (0, vR 38), (1, vI (v1)), (2, vI (v2)), (3, vI (v3))]) hX 5 dX3_sum_89 hnl (by decide) rfl rfl ?_
        refine j_goto hX (tgt := 25) dX3_sum_92 (by decide) ?_
        refine j_sub [2, 3, 4, 5, 0] rfl ?_
        exact ih _ _ h
      · rw [if_pos hc] at h
        refine j_iload hX 0 dX3_sum_68 rfl ?_
        refine j_if_le hX (tgt := 89) dX3_sum_70 (by decide) (fun hc => ?_) (fun hc => ?_)
        · rw [if_pos hc] at h
          refine j_iinc (L' := [(4, vI (w32 (v4 + 1))), (5, vI (x5)), (0, vR 38), (1, vI (v1)), (2, vI (v2)), (3, vI (v3))]) hX 5 dX3_sum_89 hnl (by decide) rfl rfl ?_
          refine j_goto hX (tgt := 25) dX3_sum_92 (by decide) ?_
          refine j_sub [2, 3, 4, 5, 0] rfl ?_
          exact ih _ _ h
        · rw [if_neg hc] at h
          refine j_aload_n hX 1 dX3_sum_73 rfl rfl ?_
          refine j_iload hX 5 dX3_sum_74 rfl ?_
          refine j_iload_n hX 3 dX3_sum_76 rfl rfl ?_
          refine j_if_eq hX (tgt := 84) dX3_sum_77 (by decide) (fun hc => ?_) (fun hc => ?_)
          · rw [if_pos hc] at h
            refine j_iload hX 0 dX3_sum_84 rfl ?_
            obtain ⟨S7, h1, h⟩ := bs h
            refine j_callVV hX mwX3_addWord miX3_addWord wd859 cbX3 ty38 hyX3_addWord (by omega) (by decide) ⟨Nat.zero_le _, Nat.zero_le _⟩ dX3_sum_86 (s_X3_addWord hfl hE h1) npX3_addWord rfl (Nat.le_of_ble_eq_true rfl) ?_
            refine j_iinc (L' := [(4, vI (w32 (v4 + 1))), (5, vI (x5)), (0, vR 38), (1, vI (v1)), (2, vI (v2)), (3, vI (v3))]) hX 5 dX3_sum_89 hnl (by decide) rfl rfl ?_
            refine j_goto hX (tgt := 25) dX3_sum_92 (by decide) ?_
            refine j_sub [2, 3, 4, 5, 0] rfl ?_
            exact ih _ _ h
          · rw [if_neg hc] at h
            refine j_iconst hX dX3_sum_80 (rc rfl) ?_
            refine j_goto hX (tgt := 86) dX3_sum_81 (by decide) ?_
            obtain ⟨S8, h1, h⟩ := bs h
            refine j_callVV hX mwX3_addWord miX3_addWord wd859 cbX3 ty38 hyX3_addWord (by omega) (by decide) ⟨Nat.zero_le _, Nat.zero_le _⟩ dX3_sum_86 (s_X3_addWord hfl hE h1) npX3_addWord rfl (Nat.le_of_ble_eq_true rfl) ?_
            refine j_iinc (L' := [(4, vI (w32 (v4 + 1))), (5, vI (x5)), (0, vR 38), (1, vI (v1)), (2, vI (v2)), (3, vI (v3))]) hX 5 dX3_sum_89 hnl (by decide) rfl rfl ?_
            refine j_goto hX (tgt := 25) dX3_sum_92 (by decide) ?_
            refine j_sub [2, 3, 4, 5, 0] rfl ?_
            exact ih _ _ h
theorem sl_X3_sum_6 {X : K0} {B : Nat → Nat} {n : Nat} {E : Mem → Mem} {r : Int} {S' : Mem} (hX : Ctx X cX3_sum "TelegramFeelings$Hearing" 4) (hR : CR X (some .long)) (hfl : (gX X).2.2.2.2 = true) (hnl : X.2.2.2.2.2.2.2.2.2.2.2.2.2.2 = 6) (hE : Lens E PC) {k105 : Mem → Option (Int × Mem)} {v1 : Int} {v2 : Int} (K105 : ∀ (S : Mem), k105 S = some (r, S') → JW X B n 0 0 105 [(0, vR 38)] [] (E S) (QM X (QcL (gX X) B n r (E S')))) : ∀ (fu : Nat) (v3 : Int) (S : Mem), g_X3_sum_L6 k105 v1 v2 fu v3 S = some (r, S') → JW X B n 0 0 6 [(0, vR 38), (1, vI (v1)), (2, vI (v2)), (3, vI (v3))] [] (E S) (QM X (QcL (gX X) B n r (E S'))) := by
  intro fu
  induction fu with
  | zero =>
    intro v3 S h
    rw [g_X3_sum_L6] at h
    cases h
  | succ fu ih =>
    intro v3 S h
    rw [g_X3_sum_L6] at h
    refine j_iload_n hX 3 dX3_sum_6 rfl rfl ?_
    refine j_aload_n hX 0 dX3_sum_7 rfl rfl ?_
    refine j_callVI hX mwX3_size miX3_size wd845 cbX3 ty38 hyX3_size (by omega) (by decide) ⟨Nat.zero_le _, Nat.zero_le _⟩ dX3_sum_8 (s_X3_size hfl hE rfl) npX3_size rfl (Nat.le_of_ble_eq_true rfl) ?_
    refine j_icmp_ge hX (tgt := 105) dX3_sum_11 (by decide) (fun hc => ?_) (fun hc => ?_)
    · rw [if_pos hc] at h
      refine j_sub [0] rfl ?_
      exact K105 _ h
    · rw [if_neg hc] at h
      refine j_aload_n hX 0 dX3_sum_14 rfl rfl ?_
      obtain ⟨q2, hg, h⟩ := bs h
      refine j_getR (k := 3) hX hE cbX3 ty38 pc38 (by decide) rfl wd300 rfl hg dX3_sum_15 ?_
      refine j_lconst (z := 0) hX dX3_sum_18 rfl (rcl rfl) ?_
      obtain ⟨S3, h1, h⟩ := bs h
      refine j_callSV hX mwJ7_fill_d0a16 msJ7_fill_d0a16 wd844 hyJ7_fill_d0a16 (by omega) (by decide) ⟨Nat.zero_le _, Nat.zero_le _⟩ dX3_sum_19 (s_J7_fill_d0a16 hE h1) npJ7_fill_d0a16 rfl (Nat.le_of_ble_eq_true rfl) ?_
      refine j_iconst hX dX3_sum_22 (rc rfl) ?_
      refine j_istore (L' := [(4, vI (0)), (0, vR 38), (1, vI (v1)), (2, vI (v2)), (3, vI (v3))]) hX dX3_sum_23 hnl (by decide) rfl ?_
      refine j_sub [1, 2, 3, 4, 0] rfl ?_
      refine sl_X3_sum_25 hX hR hfl hnl hE (fun S9 h => ?_) _ _ _ h
      refine j_aload_n hX 0 dX3_sum_95 rfl rfl ?_
      obtain ⟨S10, h1, h⟩ := bs h
      refine j_callVV hX mwX3_swap miX3_swap wd864 cbX3 ty38 hyX3_swap (by omega) (by decide) ⟨Nat.zero_le _, Nat.zero_le _⟩ dX3_sum_96 (s_X3_swap hfl hE h1) npX3_swap rfl (Nat.le_of_ble_eq_true rfl) ?_
      refine j_iinc (L' := [(3, vI (w32 (v3 + 1))), (0, vR 38), (1, vI (v1)), (2, vI (v2))]) hX 3 dX3_sum_99 hnl (by decide) rfl rfl ?_
      refine j_goto hX (tgt := 6) dX3_sum_102 (by decide) ?_
      refine j_sub [1, 2, 3, 0] rfl ?_
      exact ih _ _ h
theorem s_X3_sum {g : G0} {B : Nat → Nat} {n : Nat} {E : Mem → Mem} {a1 : Int} {a2 : Int} {S : Mem} {r : Int} {S' : Mem} (hfl : g.2.2.2.2 = true) (hE : Lens E PC) (h : g_X3_sum a1 a2 S = some (r, S')) : Cn g B n yX3_sum cX3_sum 6 (some .long) 4 [vR 38, vI (a1), vI (a2)] (E S) (QcL g B n r (E S')) := by
  refine Cn.of (by decide +kernel) (Nat.le_of_ble_eq_true rfl) (fun X hg hnl hX hR => ?_)
  subst hg
  have hX : Ctx X cX3_sum "TelegramFeelings$Hearing" 4 := hX
  unfold g_X3_sum at h
  show JW X B n 0 0 0 [(0, vR 38), (1, vI (a1)), (2, vI (a2))] [] (E S) (QM X (QcL (gX X) B n r (E S')))
  refine j_aload_n hX 0 dX3_sum_0 rfl rfl ?_
  obtain ⟨S1, h1, h⟩ := bs h
  refine j_callVV hX mwX3_begin miX3_begin wd840 cbX3 ty38 hyX3_begin (by omega) (by decide) ⟨Nat.zero_le _, Nat.zero_le _⟩ dX3_sum_1 (s_X3_begin hfl hE h1) npX3_begin rfl (Nat.le_of_ble_eq_true rfl) ?_
  refine j_iconst hX dX3_sum_4 (rc rfl) ?_
  refine j_istore_n (L' := [(3, vI (0)), (0, vR 38), (1, vI (a1)), (2, vI (a2))]) hX dX3_sum_5 rfl hnl (by decide) rfl ?_
  refine j_sub [1, 2, 3, 0] rfl ?_
  refine sl_X3_sum_6 hX hR hfl hnl hE (fun S11 h => ?_) _ _ _ h
  refine j_aload_n hX 0 dX3_sum_105 rfl rfl ?_
  obtain ⟨q12, hg, h⟩ := bs h
  refine j_getR (k := 2) hX hE cbX3 ty38 pc38 (by decide) rfl wd299 rfl hg dX3_sum_106 ?_
  refine j_iconst hX dX3_sum_109 (rc rfl) ?_
  obtain ⟨x13, hv, h⟩ := bs h
  refine j_laldD hX hE (fun _ h => h) hv dX3_sum_110 ?_
  refine j_aload_n hX 0 dX3_sum_111 rfl rfl ?_
  obtain ⟨q14, hg, h⟩ := bs h
  refine j_getR (k := 2) hX hE cbX3 ty38 pc38 (by decide) rfl wd299 rfl hg dX3_sum_112 ?_
  refine j_iconst hX dX3_sum_115 (rc rfl) ?_
  obtain ⟨x15, hv, h⟩ := bs h
  refine j_laldD hX hE (fun _ h => h) hv dX3_sum_116 ?_
  refine j_ladd hX dX3_sum_117 ?_
  cases h
  exact j_lret hX hR dX3_sum_118
theorem s_X3_isAhead {g : G0} {B : Nat → Nat} {n : Nat} {M : Mem} {a1 : Int} {a2 : Int} {a3 : Int} {a4 : Int} {r : Int} (hfl : g.2.2.2.2 = true) (h : g_X3_isAhead a1 a2 a3 a4 = r) : Cn g B n yX3_isAhead cX3_isAhead 6 (some .boolean) 1 [vL (a1), vI (a2), vL (a3), vI (a4)] M (QcI g B n r M) := by
  refine Cn.of (by decide +kernel) (Nat.le_of_ble_eq_true rfl) (fun X hg hnl hX hR => ?_)
  subst hg
  have hX : Ctx X cX3_isAhead "TelegramFeelings$Hearing" 1 := hX
  unfold g_X3_isAhead at h
  show JW X B n 0 0 0 [(0, vL (a1)), (2, vI (a2)), (3, vL (a3)), (5, vI (a4))] [] (M) (QM X (QcI (gX X) B n r M))
  refine j_lload_n hX 0 dX3_isAhead_0 rfl rfl ?_
  refine j_lload_n hX 2 dX3_isAhead_1 rfl rfl ?_
  refine j_lcmp hX dX3_isAhead_2 ?_
  refine j_if_gt hX (tgt := 24) dX3_isAhead_3 (by decide) (fun hc => ?_) (fun hc => ?_)
  · rw [if_pos hc] at h
    refine j_iconst hX dX3_isAhead_24 (rc rfl) ?_
    refine j_goto hX (tgt := 29) dX3_isAhead_25 (by decide) ?_
    subst h
    exact j_zret hX hR (Or.inr rfl) dX3_isAhead_29
  · rw [if_neg hc] at h
    refine j_lload_n hX 0 dX3_isAhead_6 rfl rfl ?_
    refine j_lload_n hX 2 dX3_isAhead_7 rfl rfl ?_
    refine j_lcmp hX dX3_isAhead_8 ?_
    refine j_if_ne hX (tgt := 28) dX3_isAhead_9 (by decide) (fun hc => ?_) (fun hc => ?_)
    · rw [if_neg hc] at h
      refine j_iconst hX dX3_isAhead_28 (rc rfl) ?_
      subst h
      exact j_zret hX hR (Or.inl rfl) dX3_isAhead_29
    · rw [if_pos hc] at h
      refine j_lload_n hX 0 dX3_isAhead_12 rfl rfl ?_
      refine j_lconst (z := 0) hX dX3_isAhead_13 rfl (rcl rfl) ?_
      refine j_lcmp hX dX3_isAhead_14 ?_
      refine j_if_le hX (tgt := 28) dX3_isAhead_15 (by decide) (fun hc => ?_) (fun hc => ?_)
      · rw [if_pos hc] at h
        refine j_iconst hX dX3_isAhead_28 (rc rfl) ?_
        subst h
        exact j_zret hX hR (Or.inl rfl) dX3_isAhead_29
      · rw [if_neg hc] at h
        refine j_iload_n hX 1 dX3_isAhead_18 rfl rfl ?_
        refine j_iload hX 3 dX3_isAhead_19 rfl ?_
        refine j_icmp_ge hX (tgt := 28) dX3_isAhead_21 (by decide) (fun hc => ?_) (fun hc => ?_)
        · rw [if_pos hc] at h
          refine j_iconst hX dX3_isAhead_28 (rc rfl) ?_
          subst h
          exact j_zret hX hR (Or.inl rfl) dX3_isAhead_29
        · rw [if_neg hc] at h
          refine j_iconst hX dX3_isAhead_24 (rc rfl) ?_
          refine j_goto hX (tgt := 29) dX3_isAhead_25 (by decide) ?_
          subst h
          exact j_zret hX hR (Or.inr rfl) dX3_isAhead_29
theorem sl_X3_tryWord_13 {X : K0} {B : Nat → Nat} {n : Nat} {E : Mem → Mem} {S' : Mem} (hX : Ctx X cX3_tryWord "TelegramFeelings$Hearing" 3) (hR : CR X none) (hfl : (gX X).2.2.2.2 = true) (hnl : X.2.2.2.2.2.2.2.2.2.2.2.2.2.2 = 8) (hE : Lens E PC)  {v1 : Int} {v2 : Int} {v3 : Int}  : ∀ (fu : Nat) (v4 : Int) (S : Mem), g_X3_tryWord_L13 v1 v2 v3 fu v4 S = some S' → JW X B n 0 0 13 [(0, vR 38), (1, vI (v1)), (2, vI (v2)), (3, vI (v3)), (4, vI (v4))] [] (E S) (QM X (QcV (gX X) B n (E S'))) := by
  intro fu
  induction fu with
  | zero =>
    intro v4 S h
    rw [g_X3_tryWord_L13] at h
    cases h
  | succ fu ih =>
    intro v4 S h
    rw [g_X3_tryWord_L13] at h
    refine j_iload hX 4 dX3_tryWord_13 rfl ?_
    refine j_iconst hX dX3_tryWord_15 (rc rfl) ?_
    refine j_icmp_gt hX (tgt := 97) dX3_tryWord_16 (by decide) (fun hc => ?_) (fun hc => ?_)
    · rw [if_pos hc] at h
      cases h
      exact j_vret hX hR dX3_tryWord_97
    · rw [if_neg hc] at h
      refine j_iload hX 4 dX3_tryWord_19 rfl ?_
      refine j_iload_n hX 3 dX3_tryWord_21 rfl rfl ?_
      refine j_callSI hX mwX8_follows msX8_follows wd863 hyX8_follows (by omega) (by decide) ⟨Nat.zero_le _, Nat.zero_le _⟩ dX3_tryWord_22 (s_X8_follows hfl rfl) npX8_follows rfl (Nat.le_of_ble_eq_true rfl) ?_
      refine j_if_eq hX (tgt := 91) dX3_tryWord_25 (by decide) (fun hc => ?_) (fun hc => ?_)
      · rw [if_pos hc] at h
        refine j_iinc (L' := [(4, vI (w32 (v4 + 1))), (0, vR 38), (1, vI (v1)), (2, vI (v2)), (3, vI (v3))]) hX 4 dX3_tryWord_91 hnl (by decide) rfl rfl ?_
        refine j_goto hX (tgt := 13) dX3_tryWord_94 (by decide) ?_
        refine j_sub [1, 2, 3, 4, 0] rfl ?_
        exact ih _ _ h
      · rw [if_neg hc] at h
        refine j_aload_n hX 0 dX3_tryWord_28 rfl rfl ?_
        obtain ⟨q2, hg, h⟩ := bs h
        refine j_getR (k := 2) hX hE cbX3 ty38 pc38 (by decide) rfl wd299 rfl hg dX3_tryWord_29 ?_
        refine j_iload hX 4 dX3_tryWord_32 rfl ?_
        obtain ⟨x3, hv, h⟩ := bs h
        refine j_laldD hX hE (fun _ h => h) hv dX3_tryWord_34 ?_
        refine j_iload_n hX 2 dX3_tryWord_35 rfl rfl ?_
        refine j_i2l hX dX3_tryWord_36 ?_
        refine j_lmul hX dX3_tryWord_37 ?_
        refine j_lstore (L' := [(5, vL (w64 (x3 * v2))), (0, vR 38), (1, vI (v1)), (2, vI (v2)), (3, vI (v3)), (4, vI (v4))]) hX dX3_tryWord_38 hnl (by decide) rfl ?_
        refine j_aload_n hX 1 dX3_tryWord_40 rfl rfl ?_
        obtain ⟨q4, hg, h⟩ := bs h
        refine j_getR (k := 4) hX hE cbX3 ty38 pc38 (by decide) rfl wd301 rfl hg dX3_tryWord_41 ?_
        refine j_iload hX 5 dX3_tryWord_44 rfl ?_
        obtain ⟨x5, hv, h⟩ := bs h
        refine j_ialdD hX hE (fun _ h => h) hv dX3_tryWord_46 ?_
        refine j_iconst hX dX3_tryWord_47 (rc rfl) ?_
        refine j_ishl hX dX3_tryWord_48 ?_
        refine j_iload_n hX 2 dX3_tryWord_49 rfl rfl ?_
        refine j_ior hX dX3_tryWord_50 ?_
        refine j_istore (L' := [(7, vI (o_or (o_shl x5 4) v1)), (5, vL (w64 (x3 * v2))), (0, vR 38), (1, vI (v1)), (2, vI (v2)), (3, vI (v3)), (4, vI (v4))]) hX dX3_tryWord_51 hnl (by decide) rfl ?_
        refine j_lload hX 1 dX3_tryWord_53 rfl ?_
        refine j_iload hX 0 dX3_tryWord_55 rfl ?_
        refine j_aload_n hX 2 dX3_tryWord_57 rfl rfl ?_
        obtain ⟨q6, hg, h⟩ := bs h
        refine j_getR (k := 3) hX hE cbX3 ty38 pc38 (by decide) rfl wd300 rfl hg dX3_tryWord_58 ?_
        refine j_iload_n hX 5 dX3_tryWord_61 rfl rfl ?_
        obtain ⟨x7, hv, h⟩ := bs h
        refine j_laldD hX hE (fun _ h => h) hv dX3_tryWord_62 ?_
        refine j_aload_n hX 2 dX3_tryWord_63 rfl rfl ?_
        obtain ⟨q8, hg, h⟩ := bs h
        refine j_getR (k := 5) hX hE cbX3 ty38 pc38 (by decide) rfl wd302 rfl hg dX3_tryWord_64 ?_
        refine j_iload_n hX 5 dX3_tryWord_67 rfl rfl ?_
        obtain ⟨x9, hv, h⟩ := bs h
        refine j_ialdD hX hE (fun _ h => h) hv dX3_tryWord_68 ?_
        refine j_callSI hX mwX3_isAhead msX3_isAhead wd881 hyX3_isAhead (by omega) (by decide) ⟨Nat.zero_le _, Nat.zero_le _⟩ dX3_tryWord_69 (s_X3_isAhead hfl rfl) npX3_isAhead rfl (Nat.le_of_ble_eq_true rfl) ?_
        refine j_if_eq hX (tgt := 91) dX3_tryWord_72 (by decide) (fun hc => ?_) (fun hc => ?_)
        · rw [if_pos hc] at h
          refine j_iinc (L' := [(4, vI (w32 (v4 + 1))), (7, vI (o_or (o_shl x5 4) v1)), (5, vL (w64 (x3 * v2))), (0, vR 38), (1, vI (v1)), (2, vI (v2)), (3, vI (v3))]) hX 6 dX3_tryWord_91 hnl (by decide) rfl rfl ?_
          refine j_goto hX (tgt := 13) dX3_tryWord_94 (by decide) ?_
          refine j_sub [3, 4, 5, 6, 0] rfl ?_
          exact ih _ _ h
        · rw [if_neg hc] at h
          refine j_aload_n hX 2 dX3_tryWord_75 rfl rfl ?_
          obtain ⟨q10, hg, h⟩ := bs h
          refine j_getR (k := 3) hX hE cbX3 ty38 pc38 (by decide) rfl wd300 rfl hg dX3_tryWord_76 ?_
          refine j_iload_n hX 5 dX3_tryWord_79 rfl rfl ?_
          refine j_lload hX 1 dX3_tryWord_80 rfl ?_
          obtain ⟨S11, hv, h⟩ := bs h
          refine j_lastD hX hE (fun _ h => h) hv dX3_tryWord_82 ?_
          refine j_aload_n hX 2 dX3_tryWord_83 rfl rfl ?_
          obtain ⟨q12, hg, h⟩ := bs h
          refine j_getR (k := 5) hX hE cbX3 ty38 pc38 (by decide) rfl wd302 rfl hg dX3_tryWord_84 ?_
          refine j_iload_n hX 5 dX3_tryWord_87 rfl rfl ?_
          refine j_iload hX 0 dX3_tryWord_88 rfl ?_
          obtain ⟨S13, hv, h⟩ := bs h
          refine j_iastD hX hE (fun _ h => h) hv dX3_tryWord_90 ?_
          refine j_iinc (L' := [(4, vI (w32 (v4 + 1))), (7, vI (o_or (o_shl x5 4) v1)), (5, vL (w64 (x3 * v2))), (0, vR 38), (1, vI (v1)), (2, vI (v2)), (3, vI (v3))]) hX 6 dX3_tryWord_91 hnl (by decide) rfl rfl ?_
          refine j_goto hX (tgt := 13) dX3_tryWord_94 (by decide) ?_
          refine j_sub [3, 4, 5, 6, 0] rfl ?_
          exact ih _ _ h
theorem s_X3_tryWord {g : G0} {B : Nat → Nat} {n : Nat} {E : Mem → Mem} {a1 : Int} {a2 : Int} {S : Mem} {S' : Mem} (hfl : g.2.2.2.2 = true) (hE : Lens E PC) (h : g_X3_tryWord a1 a2 S = some S') : Cn g B n yX3_tryWord cX3_tryWord 8 none 3 [vR 38, vI (a1), vI (a2)] (E S) (QcV g B n (E S')) := by
  refine Cn.of (by decide +kernel) (Nat.le_of_ble_eq_true rfl) (fun X hg hnl hX hR => ?_)
  subst hg
  have hX : Ctx X cX3_tryWord "TelegramFeelings$Hearing" 3 := hX
  unfold g_X3_tryWord at h
  show JW X B n 0 0 0 [(0, vR 38), (1, vI (a1)), (2, vI (a2))] [] (E S) (QM X (QcV (gX X) B n (E S')))
  refine j_aload_n hX 0 dX3_tryWord_0 rfl rfl ?_
  refine j_getS (k := 0) hX hfl cbX3 ty38 (by decide) rfl wd297 rfl sb38_0 dX3_tryWord_1 ?_
  refine j_iload_n hX 1 dX3_tryWord_4 rfl rfl ?_
  refine j_iconst hX dX3_tryWord_5 (rc rfl) ?_
  obtain ⟨x1, h1, h⟩ := bs h
  refine j_callVI hX mwX5_value miX5_value wd858 cbX5 ty1 hyX5_value (by omega) (by decide) ⟨Nat.zero_le _, Nat.zero_le _⟩ dX3_tryWord_6 (s_X5_value hfl hE h1) npX5_value rfl (Nat.le_of_ble_eq_true rfl) ?_
  refine j_istore_n (L' := [(3, vI (x1)), (0, vR 38), (1, vI (a1)), (2, vI (a2))]) hX dX3_tryWord_9 rfl hnl (by decide) rfl ?_
  refine j_iconst hX dX3_tryWord_10 (rc rfl) ?_
  refine j_istore (L' := [(4, vI (0)), (3, vI (x1)), (0, vR 38), (1, vI (a1)), (2, vI (a2))]) hX dX3_tryWord_11 hnl (by decide) rfl ?_
  refine j_sub [2, 3, 4, 1, 0] rfl ?_
  refine sl_X3_tryWord_13 hX hR hfl hnl hE  _ _ _ h
theorem sl_X3_likeliest_24 {X : K0} {B : Nat → Nat} {n : Nat} {E : Mem → Mem} {r : Int} {S' : Mem} (hX : Ctx X cX3_likeliest "TelegramFeelings$Hearing" 4) (hR : CR X (some .int)) (hfl : (gX X).2.2.2.2 = true) (hnl : X.2.2.2.2.2.2.2.2.2.2.2.2.2.2 = 4) (hE : Lens E PC) {k59 : Mem → Option (Int × Mem)} {v1 : Int} {v2 : Int} (K59 : ∀ (S : Mem), k59 S = some (r, S') → JW X B n 0 0 59 [(0, vR 38), (1, vI (v1)), (2, vI (v2))] [] (E S) (QM X (QcI (gX X) B n r (E S')))) : ∀ (fu : Nat) (v3 : Int) (S : Mem), g_X3_likeliest_L24 k59 v1 v2 fu v3 S = some (r, S') → JW X B n 0 0 24 [(0, vR 38), (1, vI (v1)), (2, vI (v2)), (3, vI (v3))] [] (E S) (QM X (QcI (gX X) B n r (E S'))) := by
  intro fu
  induction fu with
  | zero =>
    intro v3 S h
    rw [g_X3_likeliest_L24] at h
    cases h
  | succ fu ih =>
    intro v3 S h
    rw [g_X3_likeliest_L24] at h
    refine j_iload_n hX 3 dX3_likeliest_24 rfl rfl ?_
    refine j_aload_n hX 0 dX3_likeliest_25 rfl rfl ?_
    refine j_getS (k := 0) hX hfl cbX3 ty38 (by decide) rfl wd297 rfl sb38_0 dX3_likeliest_26 ?_
    refine j_getI (k := 1) hX hE cbX5 ty1 pc1 (by decide) rfl wd142 rfl dX3_likeliest_29 ?_
    refine j_icmp_ge hX (tgt := 59) dX3_likeliest_32 (by decide) (fun hc => ?_) (fun hc => ?_)
    · rw [if_pos hc] at h
      refine j_sub [0, 1, 2] rfl ?_
      exact K59 _ h
    · rw [if_neg hc] at h
      refine j_aload_n hX 0 dX3_likeliest_35 rfl rfl ?_
      refine j_iload_n hX 3 dX3_likeliest_36 rfl rfl ?_
      refine j_aload_n hX 0 dX3_likeliest_37 rfl rfl ?_
      refine j_iload_n hX 3 dX3_likeliest_38 rfl rfl ?_
      refine j_aload_n hX 0 dX3_likeliest_39 rfl rfl ?_
      refine j_getS (k := 1) hX hfl cbX3 ty38 (by decide) rfl wd298 rfl sb38_1 dX3_likeliest_40 ?_
      refine j_iload_n hX 2 dX3_likeliest_43 rfl rfl ?_
      obtain ⟨x4, h1, h⟩ := bs h
      refine j_callVI hX mwX8_wordAt miX8_wordAt wd850 cbX8 ty30 hyX8_wordAt (by omega) (by decide) ⟨Nat.zero_le _, Nat.zero_le _⟩ dX3_likeliest_44 (s_X8_wordAt hfl hE h1) npX8_wordAt rfl (Nat.le_of_ble_eq_true rfl) ?_
      obtain ⟨x5, h1, h⟩ := bs h
      refine j_callVI hX mwX3_oddsOf miX3_oddsOf wd854 cbX3 ty38 hyX3_oddsOf (by omega) (by decide) ⟨Nat.zero_le _, Nat.zero_le _⟩ dX3_likeliest_47 (s_X3_oddsOf hfl hE h1) npX3_oddsOf rfl (Nat.le_of_ble_eq_true rfl) ?_
      obtain ⟨S6, h1, h⟩ := bs h
      refine j_callVV hX mwX3_tryWord miX3_tryWord wd877 cbX3 ty38 hyX3_tryWord (by omega) (by decide) ⟨Nat.zero_le _, Nat.zero_le _⟩ dX3_likeliest_50 (s_X3_tryWord hfl hE h1) npX3_tryWord rfl (Nat.le_of_ble_eq_true rfl) ?_
      refine j_iinc (L' := [(3, vI (w32 (v3 + 1))), (0, vR 38), (1, vI (v1)), (2, vI (v2))]) hX 3 dX3_likeliest_53 hnl (by decide) rfl rfl ?_
      refine j_goto hX (tgt := 24) dX3_likeliest_56 (by decide) ?_
      refine j_sub [1, 2, 3, 0] rfl ?_
      exact ih _ _ h
theorem sl_X3_likeliest_6 {X : K0} {B : Nat → Nat} {n : Nat} {E : Mem → Mem} {r : Int} {S' : Mem} (hX : Ctx X cX3_likeliest "TelegramFeelings$Hearing" 4) (hR : CR X (some .int)) (hfl : (gX X).2.2.2.2 = true) (hnl : X.2.2.2.2.2.2.2.2.2.2.2.2.2.2 = 4) (hE : Lens E PC) {k69 : Mem → Option (Int × Mem)} {v1 : Int} (K69 : ∀ (S : Mem), k69 S = some (r, S') → JW X B n 0 0 69 [(0, vR 38), (1, vI (v1))] [] (E S) (QM X (QcI (gX X) B n r (E S')))) : ∀ (fu : Nat) (v2 : Int) (S : Mem), g_X3_likeliest_L6 k69 v1 fu v2 S = some (r, S') → JW X B n 0 0 6 [(0, vR 38), (1, vI (v1)), (2, vI (v2))] [] (E S) (QM X (QcI (gX X) B n r (E S'))) := by
  intro fu
  induction fu with
  | zero =>
    intro v2 S h
    rw [g_X3_likeliest_L6] at h
    cases h
  | succ fu ih =>
    intro v2 S h
    rw [g_X3_likeliest_L6] at h
    refine j_iload_n hX 2 dX3_likeliest_6 rfl rfl ?_
    refine j_aload_n hX 0 dX3_likeliest_7 rfl rfl ?_
    refine j_callVI hX mwX3_size miX3_size wd845 cbX3 ty38 hyX3_size (by omega) (by decide) ⟨Nat.zero_le _, Nat.zero_le _⟩ dX3_likeliest_8 (s_X3_size hfl hE rfl) npX3_size rfl (Nat.le_of_ble_eq_true rfl) ?_
    refine j_icmp_ge hX (tgt := 69) dX3_likeliest_11 (by decide) (fun hc => ?_) (fun hc => ?_)
    · rw [if_pos hc] at h
      refine j_sub [0, 1] rfl ?_
      exact K69 _ h
    · rw [if_neg hc] at h
      refine j_aload_n hX 0 dX3_likeliest_14 rfl rfl ?_
      obtain ⟨q2, hg, h⟩ := bs h
      refine j_getR (k := 3) hX hE cbX3 ty38 pc38 (by decide) rfl wd300 rfl hg dX3_likeliest_15 ?_
      refine j_lconst (z := 0) hX dX3_likeliest_18 rfl (rcl rfl) ?_
      obtain ⟨S3, h1, h⟩ := bs h
      refine j_callSV hX mwJ7_fill_d0a16 msJ7_fill_d0a16 wd844 hyJ7_fill_d0a16 (by omega) (by decide) ⟨Nat.zero_le _, Nat.zero_le _⟩ dX3_likeliest_19 (s_J7_fill_d0a16 hE h1) npJ7_fill_d0a16 rfl (Nat.le_of_ble_eq_true rfl) ?_
      refine j_iconst hX dX3_likeliest_22 (rc rfl) ?_
      refine j_istore_n (L' := [(3, vI (0)), (0, vR 38), (1, vI (v1)), (2, vI (v2))]) hX dX3_likeliest_23 rfl hnl (by decide) rfl ?_
      refine j_sub [1, 2, 3, 0] rfl ?_
      refine sl_X3_likeliest_24 hX hR hfl hnl hE (fun S7 h => ?_) _ _ _ h
      refine j_aload_n hX 0 dX3_likeliest_59 rfl rfl ?_
      obtain ⟨S8, h1, h⟩ := bs h
      refine j_callVV hX mwX3_swap miX3_swap wd864 cbX3 ty38 hyX3_swap (by omega) (by decide) ⟨Nat.zero_le _, Nat.zero_le _⟩ dX3_likeliest_60 (s_X3_swap hfl hE h1) npX3_swap rfl (Nat.le_of_ble_eq_true rfl) ?_
      refine j_iinc (L' := [(2, vI (w32 (v2 + 1))), (0, vR 38), (1, vI (v1))]) hX 2 dX3_likeliest_63 hnl (by decide) rfl rfl ?_
      refine j_goto hX (tgt := 6) dX3_likeliest_66 (by decide) ?_
      refine j_sub [1, 2, 0] rfl ?_
      exact ih _ _ h
theorem sj_X3_likeliest_104 {X : K0} {B : Nat → Nat} {n : Nat} {E : Mem → Mem} {r : Int} {S' : Mem} (hX : Ctx X cX3_likeliest "TelegramFeelings$Hearing" 4) (hR : CR X (some .int)) (hfl : (gX X).2.2.2.2 = true) (hnl : X.2.2.2.2.2.2.2.2.2.2.2.2.2.2 = 4) (hE : Lens E PC)   {v1 : Int} {s0 : Int} {S : Mem} (h : g_X3_likeliest_J104 v1 s0 S = some (r, S')) : JW X B n 0 0 104 [(0, vR 38), (1, vI (v1))] [vI (s0)] (E S) (QM X (QcI (gX X) B n r (E S'))) := by
  unfold g_X3_likeliest_J104 at h
  refine j_istore_n (L' := [(2, vI (s0)), (0, vR 38), (1, vI (v1))]) hX dX3_likeliest_104 rfl hnl (by decide) rfl ?_
  refine j_aload_n hX 1 dX3_likeliest_105 rfl rfl ?_
  obtain ⟨q18, hg, h⟩ := bs h
  refine j_getR (k := 2) hX hE cbX3 ty38 pc38 (by decide) rfl wd299 rfl hg dX3_likeliest_106 ?_
  refine j_iload_n hX 0 dX3_likeliest_109 rfl rfl ?_
  obtain ⟨x19, hv, h⟩ := bs h
  refine j_laldD hX hE (fun _ h => h) hv dX3_likeliest_110 ?_
  refine j_lconst (z := 0) hX dX3_likeliest_111 rfl (rcl rfl) ?_
  refine j_lcmp hX dX3_likeliest_112 ?_
  refine j_if_eq hX (tgt := 124) dX3_likeliest_113 (by decide) (fun hc => ?_) (fun hc => ?_)
  · rw [if_pos hc] at h
    refine j_bipush hX dX3_likeliest_124 (rc rfl) (by decide) ?_
    cases h
    exact j_iret hX hR dX3_likeliest_126
  · rw [if_neg hc] at h
    refine j_iload_n hX 2 dX3_likeliest_116 rfl rfl ?_
    refine j_aload_n hX 1 dX3_likeliest_117 rfl rfl ?_
    refine j_callVI hX mwX3_size miX3_size wd845 cbX3 ty38 hyX3_size (by omega) (by decide) ⟨Nat.zero_le _, Nat.zero_le _⟩ dX3_likeliest_118 (s_X3_size hfl hE rfl) npX3_size rfl (Nat.le_of_ble_eq_true rfl) ?_
    refine j_icmp_lt hX (tgt := 127) dX3_likeliest_121 (by decide) (fun hc => ?_) (fun hc => ?_)
    · rw [if_pos hc] at h
      refine j_aload_n hX 1 dX3_likeliest_127 rfl rfl ?_
      obtain ⟨q20, hg, h⟩ := bs h
      refine j_getR (k := 4) hX hE cbX3 ty38 pc38 (by decide) rfl wd301 rfl hg dX3_likeliest_128 ?_
      refine j_iload_n hX 0 dX3_likeliest_131 rfl rfl ?_
      obtain ⟨x21, hv, h⟩ := bs h
      refine j_ialdD hX hE (fun _ h => h) hv dX3_likeliest_132 ?_
      refine j_iconst hX dX3_likeliest_133 (rc rfl) ?_
      refine j_aload_n hX 1 dX3_likeliest_134 rfl rfl ?_
      refine j_callVI hX mwX3_size miX3_size wd845 cbX3 ty38 hyX3_size (by omega) (by decide) ⟨Nat.zero_le _, Nat.zero_le _⟩ dX3_likeliest_135 (s_X3_size hfl hE rfl) npX3_size rfl (Nat.le_of_ble_eq_true rfl) ?_
      refine j_iconst hX dX3_likeliest_138 (rc rfl) ?_
      refine j_isub hX dX3_likeliest_139 ?_
      refine j_iload_n hX 2 dX3_likeliest_140 rfl rfl ?_
      refine j_isub hX dX3_likeliest_141 ?_
      refine j_imul hX dX3_likeliest_142 ?_
      refine j_ishr hX dX3_likeliest_143 ?_
      refine j_bipush hX dX3_likeliest_144 (rc rfl) (by decide) ?_
      refine j_iand hX dX3_likeliest_146 ?_
      cases h
      exact j_iret hX hR dX3_likeliest_147
    · rw [if_neg hc] at h
      refine j_bipush hX dX3_likeliest_124 (rc rfl) (by decide) ?_
      cases h
      exact j_iret hX hR dX3_likeliest_126
theorem s_X3_likeliest {g : G0} {B : Nat → Nat} {n : Nat} {E : Mem → Mem} {a1 : Int} {S : Mem} {r : Int} {S' : Mem} (hfl : g.2.2.2.2 = true) (hE : Lens E PC) (h : g_X3_likeliest a1 S = some (r, S')) : Cn g B n yX3_likeliest cX3_likeliest 4 (some .int) 4 [vR 38, vI (a1)] (E S) (QcI g B n r (E S')) := by
  refine Cn.of (by decide +kernel) (Nat.le_of_ble_eq_true rfl) (fun X hg hnl hX hR => ?_)
  subst hg
  have hX : Ctx X cX3_likeliest "TelegramFeelings$Hearing" 4 := hX
  unfold g_X3_likeliest at h
  show JW X B n 0 0 0 [(0, vR 38), (1, vI (a1))] [] (E S) (QM X (QcI (gX X) B n r (E S')))
  refine j_aload_n hX 0 dX3_likeliest_0 rfl rfl ?_
  obtain ⟨S1, h1, h⟩ := bs h
  refine j_callVV hX mwX3_begin miX3_begin wd840 cbX3 ty38 hyX3_begin (by omega) (by decide) ⟨Nat.zero_le _, Nat.zero_le _⟩ dX3_likeliest_1 (s_X3_begin hfl hE h1) npX3_begin rfl (Nat.le_of_ble_eq_true rfl) ?_
  refine j_iconst hX dX3_likeliest_4 (rc rfl) ?_
  refine j_istore_n (L' := [(2, vI (0)), (0, vR 38), (1, vI (a1))]) hX dX3_likeliest_5 rfl hnl (by decide) rfl ?_
  refine j_sub [1, 2, 0] rfl ?_
  refine sl_X3_likeliest_6 hX hR hfl hnl hE (fun S9 h => ?_) _ _ _ h
  refine j_aload_n hX 0 dX3_likeliest_69 rfl rfl ?_
  obtain ⟨q10, hg, h⟩ := bs h
  refine j_getR (k := 2) hX hE cbX3 ty38 pc38 (by decide) rfl wd299 rfl hg dX3_likeliest_70 ?_
  refine j_iconst hX dX3_likeliest_73 (rc rfl) ?_
  obtain ⟨x11, hv, h⟩ := bs h
  refine j_laldD hX hE (fun _ h => h) hv dX3_likeliest_74 ?_
  refine j_aload_n hX 0 dX3_likeliest_75 rfl rfl ?_
  obtain ⟨q12, hg, h⟩ := bs h
  refine j_getR (k := 4) hX hE cbX3 ty38 pc38 (by decide) rfl wd301 rfl hg dX3_likeliest_76 ?_
  refine j_iconst hX dX3_likeliest_79 (rc rfl) ?_
  obtain ⟨x13, hv, h⟩ := bs h
  refine j_ialdD hX hE (fun _ h => h) hv dX3_likeliest_80 ?_
  refine j_aload_n hX 0 dX3_likeliest_81 rfl rfl ?_
  obtain ⟨q14, hg, h⟩ := bs h
  refine j_getR (k := 2) hX hE cbX3 ty38 pc38 (by decide) rfl wd299 rfl hg dX3_likeliest_82 ?_
  refine j_iconst hX dX3_likeliest_85 (rc rfl) ?_
  obtain ⟨x15, hv, h⟩ := bs h
  refine j_laldD hX hE (fun _ h => h) hv dX3_likeliest_86 ?_
  refine j_aload_n hX 0 dX3_likeliest_87 rfl rfl ?_
  obtain ⟨q16, hg, h⟩ := bs h
  refine j_getR (k := 4) hX hE cbX3 ty38 pc38 (by decide) rfl wd301 rfl hg dX3_likeliest_88 ?_
  refine j_iconst hX dX3_likeliest_91 (rc rfl) ?_
  obtain ⟨x17, hv, h⟩ := bs h
  refine j_ialdD hX hE (fun _ h => h) hv dX3_likeliest_92 ?_
  refine j_callSI hX mwX3_isAhead msX3_isAhead wd881 hyX3_isAhead (by omega) (by decide) ⟨Nat.zero_le _, Nat.zero_le _⟩ dX3_likeliest_93 (s_X3_isAhead hfl rfl) npX3_isAhead rfl (Nat.le_of_ble_eq_true rfl) ?_
  refine j_if_eq hX (tgt := 103) dX3_likeliest_96 (by decide) (fun hc => ?_) (fun hc => ?_)
  · rw [if_pos hc] at h
    refine j_iconst hX dX3_likeliest_103 (rc rfl) ?_
    refine j_sub [0, 1] rfl ?_
    exact sj_X3_likeliest_104 hX hR hfl hnl hE  h
  · rw [if_neg hc] at h
    refine j_iconst hX dX3_likeliest_99 (rc rfl) ?_
    refine j_goto hX (tgt := 104) dX3_likeliest_100 (by decide) ?_
    refine j_sub [0, 1] rfl ?_
    exact sj_X3_likeliest_104 hX hR hfl hnl hE  h
theorem sl_X3_sure_17 {X : K0} {B : Nat → Nat} {n : Nat} {E : Mem → Mem} {r : Int} {S' : Mem} (hX : Ctx X cX3_sure "TelegramFeelings$Hearing" 5) (hR : CR X (some .int)) (hfl : (gX X).2.2.2.2 = true) (hnl : X.2.2.2.2.2.2.2.2.2.2.2.2.2.2 = 3) (hE : Lens E PC)    : ∀ (fu : Nat) (v1 : Int) (v2 : Int) (S : Mem), g_X3_sure_L17 fu v1 v2 S = some (r, S') → JW X B n 0 0 17 [(0, vR 38), (1, vI (v1)), (2, vI (v2))] [] (E S) (QM X (QcI (gX X) B n r (E S'))) := by
  intro fu
  induction fu with
  | zero =>
    intro v1 v2 S h
    rw [g_X3_sure_L17] at h
    cases h
  | succ fu ih =>
    intro v1 v2 S h
    rw [g_X3_sure_L17] at h
    refine j_iload_n hX 2 dX3_sure_17 rfl rfl ?_
    refine j_bipush hX dX3_sure_18 (rc rfl) (by decide) ?_
    refine j_icmp_ge hX (tgt := 52) dX3_sure_20 (by decide) (fun hc => ?_) (fun hc => ?_)
    · rw [if_pos hc] at h
      refine j_iload_n hX 1 dX3_sure_52 rfl rfl ?_
      cases h
      exact j_iret hX hR dX3_sure_53
    · rw [if_neg hc] at h
      refine j_iload_n hX 1 dX3_sure_23 rfl rfl ?_
      refine j_aload_n hX 0 dX3_sure_24 rfl rfl ?_
      refine j_iconst hX dX3_sure_25 (rc rfl) ?_
      refine j_iload_n hX 2 dX3_sure_26 rfl rfl ?_
      refine j_ishl hX dX3_sure_27 ?_
      refine j_iconst hX dX3_sure_28 (rc rfl) ?_
      obtain ⟨x4, S3, h1, h⟩ := bd2_s h
      refine j_callVL hX mwX3_sum miX3_sum wd899 cbX3 ty38 hyX3_sum (by omega) (by decide) ⟨Nat.zero_le _, Nat.zero_le _⟩ dX3_sure_29 (s_X3_sum hfl hE h1) npX3_sum rfl (Nat.le_of_ble_eq_true rfl) ?_
      refine j_lconst (z := 0) hX dX3_sure_32 rfl (rcl rfl) ?_
      refine j_lcmp hX dX3_sure_33 ?_
      refine j_if_ne hX (tgt := 43) dX3_sure_34 (by decide) (fun hc => ?_) (fun hc => ?_)
      · rw [if_neg hc] at h
        refine j_iconst hX dX3_sure_43 (rc rfl) ?_
        refine j_ior hX dX3_sure_44 ?_
        refine j_istore_n (L' := [(1, vI (o_or v1 0)), (0, vR 38), (2, vI (v2))]) hX dX3_sure_45 rfl hnl (by decide) rfl ?_
        refine j_iinc (L' := [(2, vI (w32 (v2 + 1))), (1, vI (o_or v1 0)), (0, vR 38)]) hX 2 dX3_sure_46 hnl (by decide) rfl rfl ?_
        refine j_goto hX (tgt := 17) dX3_sure_49 (by decide) ?_
        refine j_sub [2, 1, 0] rfl ?_
        exact ih _ _ _ h
      · rw [if_pos hc] at h
        refine j_iconst hX dX3_sure_37 (rc rfl) ?_
        refine j_iload_n hX 2 dX3_sure_38 rfl rfl ?_
        refine j_ishl hX dX3_sure_39 ?_
        refine j_goto hX (tgt := 44) dX3_sure_40 (by decide) ?_
        refine j_ior hX dX3_sure_44 ?_
        refine j_istore_n (L' := [(1, vI (o_or v1 (o_shl 1 v2))), (0, vR 38), (2, vI (v2))]) hX dX3_sure_45 rfl hnl (by decide) rfl ?_
        refine j_iinc (L' := [(2, vI (w32 (v2 + 1))), (1, vI (o_or v1 (o_shl 1 v2))), (0, vR 38)]) hX 2 dX3_sure_46 hnl (by decide) rfl rfl ?_
        refine j_goto hX (tgt := 17) dX3_sure_49 (by decide) ?_
        refine j_sub [2, 1, 0] rfl ?_
        exact ih _ _ _ h
theorem s_X3_sure {g : G0} {B : Nat → Nat} {n : Nat} {E : Mem → Mem}  {S : Mem} {r : Int} {S' : Mem} (hfl : g.2.2.2.2 = true) (hE : Lens E PC) (h : g_X3_sure S = some (r, S')) : Cn g B n yX3_sure cX3_sure 3 (some .int) 5 [vR 38] (E S) (QcI g B n r (E S')) := by
  refine Cn.of (by decide +kernel) (Nat.le_of_ble_eq_true rfl) (fun X hg hnl hX hR => ?_)
  subst hg
  have hX : Ctx X cX3_sure "TelegramFeelings$Hearing" 5 := hX
  unfold g_X3_sure at h
  show JW X B n 0 0 0 [(0, vR 38)] [] (E S) (QM X (QcI (gX X) B n r (E S')))
  refine j_aload_n hX 0 dX3_sure_0 rfl rfl ?_
  refine j_iconst hX dX3_sure_1 (rc rfl) ?_
  refine j_iconst hX dX3_sure_2 (rc rfl) ?_
  obtain ⟨x2, S1, h1, h⟩ := bd2_s h
  refine j_callVL hX mwX3_sum miX3_sum wd899 cbX3 ty38 hyX3_sum (by omega) (by decide) ⟨Nat.zero_le _, Nat.zero_le _⟩ dX3_sure_3 (s_X3_sum hfl hE h1) npX3_sum rfl (Nat.le_of_ble_eq_true rfl) ?_
  refine j_lconst (z := 0) hX dX3_sure_6 rfl (rcl rfl) ?_
  refine j_lcmp hX dX3_sure_7 ?_
  refine j_if_ne hX (tgt := 13) dX3_sure_8 (by decide) (fun hc => ?_) (fun hc => ?_)
  · rw [if_neg hc] at h
    refine j_iconst hX dX3_sure_13 (rc rfl) ?_
    refine j_istore_n (L' := [(1, vI (0)), (0, vR 38)]) hX dX3_sure_14 rfl hnl (by decide) rfl ?_
    refine j_iconst hX dX3_sure_15 (rc rfl) ?_
    refine j_istore_n (L' := [(2, vI (0)), (1, vI (0)), (0, vR 38)]) hX dX3_sure_16 rfl hnl (by decide) rfl ?_
    refine j_sub [2, 1, 0] rfl ?_
    refine sl_X3_sure_17 hX hR hfl hnl hE  _ _ _ _ h
  · rw [if_pos hc] at h
    refine j_iconst hX dX3_sure_11 (rc rfl) ?_
    cases h
    exact j_iret hX hR dX3_sure_12
theorem sl_X3_allOdds_4 {X : K0} {B : Nat → Nat} {n : Nat} {E : Mem → Mem} {r : Int} (hX : Ctx X cX3_allOdds "TelegramFeelings$Hearing" 3) (hR : CR X (some .long)) (hfl : (gX X).2.2.2.2 = true) (hnl : X.2.2.2.2.2.2.2.2.2.2.2.2.2.2 = 4) (hE : Lens E PC)   {S : Mem}  : ∀ (fu : Nat) (v1 : Int) (v3 : Int), g_X3_allOdds_L4 S fu v1 v3 = some r → JW X B n 0 0 4 [(0, vR 38), (1, vL (v1)), (3, vI (v3))] [] (E S) (QM X (QcL (gX X) B n r (E S))) := by
  intro fu
  induction fu with
  | zero =>
    intro v1 v3 h
    rw [g_X3_allOdds_L4] at h
    cases h
  | succ fu ih =>
    intro v1 v3 h
    rw [g_X3_allOdds_L4] at h
    refine j_iload_n hX 2 dX3_allOdds_4 rfl rfl ?_
    refine j_aload_n hX 0 dX3_allOdds_5 rfl rfl ?_
    refine j_callVI hX mwX3_size miX3_size wd845 cbX3 ty38 hyX3_size (by omega) (by decide) ⟨Nat.zero_le _, Nat.zero_le _⟩ dX3_allOdds_6 (s_X3_size hfl hE rfl) npX3_size rfl (Nat.le_of_ble_eq_true rfl) ?_
    refine j_icmp_ge hX (tgt := 24) dX3_allOdds_9 (by decide) (fun hc => ?_) (fun hc => ?_)
    · rw [if_pos hc] at h
      refine j_lload_n hX 1 dX3_allOdds_24 rfl rfl ?_
      cases h
      exact j_lret hX hR dX3_allOdds_25
    · rw [if_neg hc] at h
      refine j_lload_n hX 1 dX3_allOdds_12 rfl rfl ?_
      refine j_ldc2 (z := 12) hX wd924 (by decide) dX3_allOdds_13 (rcl rfl) ?_
      refine j_lmul hX dX3_allOdds_16 ?_
      refine j_lstore_n (L' := [(1, vL (w64 (v1 * 12))), (0, vR 38), (3, vI (v3))]) hX dX3_allOdds_17 rfl hnl (by decide) rfl ?_
      refine j_iinc (L' := [(3, vI (w32 (v3 + 1))), (1, vL (w64 (v1 * 12))), (0, vR 38)]) hX 2 dX3_allOdds_18 hnl (by decide) rfl rfl ?_
      refine j_goto hX (tgt := 4) dX3_allOdds_21 (by decide) ?_
      refine j_sub [2, 1, 0] rfl ?_
      exact ih _ _ h
theorem s_X3_allOdds {g : G0} {B : Nat → Nat} {n : Nat} {E : Mem → Mem}  {S : Mem} {r : Int} (hfl : g.2.2.2.2 = true) (hE : Lens E PC) (h : g_X3_allOdds S = some r) : Cn g B n yX3_allOdds cX3_allOdds 4 (some .long) 3 [vR 38] (E S) (QcL g B n r (E S)) := by
  refine Cn.of (by decide +kernel) (Nat.le_of_ble_eq_true rfl) (fun X hg hnl hX hR => ?_)
  subst hg
  have hX : Ctx X cX3_allOdds "TelegramFeelings$Hearing" 3 := hX
  unfold g_X3_allOdds at h
  show JW X B n 0 0 0 [(0, vR 38)] [] (E S) (QM X (QcL (gX X) B n r (E S)))
  refine j_lconst (z := 1) hX dX3_allOdds_0 rfl (rcl rfl) ?_
  refine j_lstore_n (L' := [(1, vL (1)), (0, vR 38)]) hX dX3_allOdds_1 rfl hnl (by decide) rfl ?_
  refine j_iconst hX dX3_allOdds_2 (rc rfl) ?_
  refine j_istore_n (L' := [(3, vI (0)), (1, vL (1)), (0, vR 38)]) hX dX3_allOdds_3 rfl hnl (by decide) rfl ?_
  refine j_sub [2, 1, 0] rfl ?_
  refine sl_X3_allOdds_4 hX hR hfl hnl hE  _ _ _ h
theorem s_X9_isIn {g : G0} {B : Nat → Nat} {n : Nat} {M : Mem} {a1 : Int} {a2 : Int} {r : Int} (hfl : g.2.2.2.2 = true) (h : g_X9_isIn a1 a2 = r) : Cn g B n yX9_isIn cX9_isIn 2 (some .boolean) 1 [vI (a1), vI (a2)] M (QcI g B n r M) := by
  refine Cn.of (by decide +kernel) (Nat.le_of_ble_eq_true rfl) (fun X hg hnl hX hR => ?_)
  subst hg
  have hX : Ctx X cX9_isIn "TelegramFeelings" 1 := hX
  unfold g_X9_isIn at h
  show JW X B n 0 0 0 [(0, vI (a1)), (1, vI (a2))] [] (M) (QM X (QcI (gX X) B n r M))
  refine j_iload_n hX 0 dX9_isIn_0 rfl rfl ?_
  refine j_iload_n hX 1 dX9_isIn_1 rfl rfl ?_
  refine j_ishr hX dX9_isIn_2 ?_
  refine j_iconst hX dX9_isIn_3 (rc rfl) ?_
  refine j_iand hX dX9_isIn_4 ?_
  refine j_iconst hX dX9_isIn_5 (rc rfl) ?_
  refine j_icmp_ne hX (tgt := 13) dX9_isIn_6 (by decide) (fun hc => ?_) (fun hc => ?_)
  · rw [if_neg hc] at h
    refine j_iconst hX dX9_isIn_13 (rc rfl) ?_
    subst h
    exact j_zret hX hR (Or.inl rfl) dX9_isIn_14
  · rw [if_pos hc] at h
    refine j_iconst hX dX9_isIn_9 (rc rfl) ?_
    refine j_goto hX (tgt := 14) dX9_isIn_10 (by decide) ?_
    subst h
    exact j_zret hX hR (Or.inr rfl) dX9_isIn_14
theorem sl_X3_oddsWith_16 {X : K0} {B : Nat → Nat} {n : Nat} {E : Mem → Mem} {r : Int} (hX : Ctx X cX3_oddsWith "TelegramFeelings$Hearing" 3) (hR : CR X (some .long)) (hfl : (gX X).2.2.2.2 = true) (hnl : X.2.2.2.2.2.2.2.2.2.2.2.2.2.2 = 6) (hE : Lens E PC)  {v1 : Int} {v2 : Int} {S : Mem}  : ∀ (fu : Nat) (v3 : Int) (v5 : Int), g_X3_oddsWith_L16 v1 v2 S fu v3 v5 = some r → JW X B n 0 0 16 [(0, vR 38), (1, vI (v1)), (2, vI (v2)), (3, vL (v3)), (5, vI (v5))] [] (E S) (QM X (QcL (gX X) B n r (E S))) := by
  intro fu
  induction fu with
  | zero =>
    intro v3 v5 h
    rw [g_X3_oddsWith_L16] at h
    cases h
  | succ fu ih =>
    intro v3 v5 h
    rw [g_X3_oddsWith_L16] at h
    refine j_iload hX 4 dX3_oddsWith_16 rfl ?_
    refine j_aload_n hX 0 dX3_oddsWith_18 rfl rfl ?_
    refine j_callVI hX mwX3_size miX3_size wd845 cbX3 ty38 hyX3_size (by omega) (by decide) ⟨Nat.zero_le _, Nat.zero_le _⟩ dX3_oddsWith_19 (s_X3_size hfl hE rfl) npX3_size rfl (Nat.le_of_ble_eq_true rfl) ?_
    refine j_icmp_ge hX (tgt := 53) dX3_oddsWith_22 (by decide) (fun hc => ?_) (fun hc => ?_)
    · rw [if_pos hc] at h
      refine j_lload_n hX 3 dX3_oddsWith_53 rfl rfl ?_
      cases h
      exact j_lret hX hR dX3_oddsWith_54
    · rw [if_neg hc] at h
      refine j_lload_n hX 3 dX3_oddsWith_25 rfl rfl ?_
      refine j_iload_n hX 1 dX3_oddsWith_26 rfl rfl ?_
      refine j_iload hX 4 dX3_oddsWith_27 rfl ?_
      refine j_callNI hX mwX9_isIn msX9_isIn (fun h => h.2.1.2.2) hyX9_isIn (by omega) (by decide) ⟨Nat.zero_le _, Nat.zero_le _⟩ dX3_oddsWith_29 (s_X9_isIn hfl rfl) npX9_isIn rfl (Nat.le_of_ble_eq_true rfl) ?_
      refine j_if_eq hX (tgt := 40) dX3_oddsWith_32 (by decide) (fun hc => ?_) (fun hc => ?_)
      · rw [if_pos hc] at h
        refine j_bipush hX dX3_oddsWith_40 (rc rfl) (by decide) ?_
        refine j_iload_n hX 2 dX3_oddsWith_42 rfl rfl ?_
        refine j_isub hX dX3_oddsWith_43 ?_
        refine j_i2l hX dX3_oddsWith_44 ?_
        refine j_lmul hX dX3_oddsWith_45 ?_
        obtain ⟨x2, hx, h⟩ := ap_s h
        rw [← hx]
        clear hx
        refine j_lstore_n (L' := [(3, vL (x2)), (0, vR 38), (1, vI (v1)), (2, vI (v2)), (5, vI (v5))]) hX dX3_oddsWith_46 rfl hnl (by decide) rfl ?_
        refine j_iinc (L' := [(5, vI (w32 (v5 + 1))), (3, vL (x2)), (0, vR 38), (1, vI (v1)), (2, vI (v2))]) hX 4 dX3_oddsWith_47 hnl (by decide) rfl rfl ?_
        refine j_goto hX (tgt := 16) dX3_oddsWith_50 (by decide) ?_
        refine j_sub [2, 3, 4, 1, 0] rfl ?_
        exact ih _ _ h
      · rw [if_neg hc] at h
        refine j_iload_n hX 2 dX3_oddsWith_35 rfl rfl ?_
        refine j_i2l hX dX3_oddsWith_36 ?_
        refine j_goto hX (tgt := 45) dX3_oddsWith_37 (by decide) ?_
        refine j_lmul hX dX3_oddsWith_45 ?_
        refine j_lstore_n (L' := [(3, vL (w64 (v3 * v2))), (0, vR 38), (1, vI (v1)), (2, vI (v2)), (5, vI (v5))]) hX dX3_oddsWith_46 rfl hnl (by decide) rfl ?_
        refine j_iinc (L' := [(5, vI (w32 (v5 + 1))), (3, vL (w64 (v3 * v2))), (0, vR 38), (1, vI (v1)), (2, vI (v2))]) hX 4 dX3_oddsWith_47 hnl (by decide) rfl rfl ?_
        refine j_goto hX (tgt := 16) dX3_oddsWith_50 (by decide) ?_
        refine j_sub [2, 3, 4, 1, 0] rfl ?_
        exact ih _ _ h
theorem s_X3_oddsWith {g : G0} {B : Nat → Nat} {n : Nat} {E : Mem → Mem} {a1 : Int} {S : Mem} {r : Int} (hfl : g.2.2.2.2 = true) (hE : Lens E PC) (h : g_X3_oddsWith a1 S = some r) : Cn g B n yX3_oddsWith cX3_oddsWith 6 (some .long) 3 [vR 38, vI (a1)] (E S) (QcL g B n r (E S)) := by
  refine Cn.of (by decide +kernel) (Nat.le_of_ble_eq_true rfl) (fun X hg hnl hX hR => ?_)
  subst hg
  have hX : Ctx X cX3_oddsWith "TelegramFeelings$Hearing" 3 := hX
  unfold g_X3_oddsWith at h
  show JW X B n 0 0 0 [(0, vR 38), (1, vI (a1))] [] (E S) (QM X (QcL (gX X) B n r (E S)))
  refine j_aload_n hX 0 dX3_oddsWith_0 rfl rfl ?_
  refine j_getS (k := 0) hX hfl cbX3 ty38 (by decide) rfl wd297 rfl sb38_0 dX3_oddsWith_1 ?_
  refine j_iconst hX dX3_oddsWith_4 (rc rfl) ?_
  refine j_bipush hX dX3_oddsWith_5 (rc rfl) (by decide) ?_
  obtain ⟨x1, h1, h⟩ := bs h
  refine j_callVI hX mwX5_value miX5_value wd858 cbX5 ty1 hyX5_value (by omega) (by decide) ⟨Nat.zero_le _, Nat.zero_le _⟩ dX3_oddsWith_7 (s_X5_value hfl hE h1) npX5_value rfl (Nat.le_of_ble_eq_true rfl) ?_
  refine j_istore_n (L' := [(2, vI (x1)), (0, vR 38), (1, vI (a1))]) hX dX3_oddsWith_10 rfl hnl (by decide) rfl ?_
  refine j_lconst (z := 1) hX dX3_oddsWith_11 rfl (rcl rfl) ?_
  refine j_lstore_n (L' := [(3, vL (1)), (2, vI (x1)), (0, vR 38), (1, vI (a1))]) hX dX3_oddsWith_12 rfl hnl (by decide) rfl ?_
  refine j_iconst hX dX3_oddsWith_13 (rc rfl) ?_
  refine j_istore (L' := [(5, vI (0)), (3, vL (1)), (2, vI (x1)), (0, vR 38), (1, vI (a1))]) hX dX3_oddsWith_14 hnl (by decide) rfl ?_
  refine j_sub [3, 4, 2, 1, 0] rfl ?_
  refine sl_X3_oddsWith_16 hX hR hfl hnl hE  _ _ _ h
theorem sl_X3_senseWith_4 {X : K0} {B : Nat → Nat} {n : Nat} {E : Mem → Mem} {r : Int} (hX : Ctx X cX3_senseWith "TelegramFeelings$Hearing" 3) (hR : CR X (some .int)) (hfl : (gX X).2.2.2.2 = true) (hnl : X.2.2.2.2.2.2.2.2.2.2.2.2.2.2 = 5) (hE : Lens E PC)  {v1 : Int} {S : Mem}  : ∀ (fu : Nat) (v2 : Int) (v3 : Int), g_X3_senseWith_L4 v1 S fu v2 v3 = some r → JW X B n 0 0 4 [(0, vR 38), (1, vI (v1)), (2, vI (v2)), (3, vI (v3))] [] (E S) (QM X (QcI (gX X) B n r (E S))) := by
  intro fu
  induction fu with
  | zero =>
    intro v2 v3 h
    rw [g_X3_senseWith_L4] at h
    cases h
  | succ fu ih =>
    intro v2 v3 h
    rw [g_X3_senseWith_L4] at h
    refine j_iload_n hX 3 dX3_senseWith_4 rfl rfl ?_
    refine j_aload_n hX 0 dX3_senseWith_5 rfl rfl ?_
    refine j_callVI hX mwX3_size miX3_size wd845 cbX3 ty38 hyX3_size (by omega) (by decide) ⟨Nat.zero_le _, Nat.zero_le _⟩ dX3_senseWith_6 (s_X3_size hfl hE rfl) npX3_size rfl (Nat.le_of_ble_eq_true rfl) ?_
    refine j_icmp_ge hX (tgt := 62) dX3_senseWith_9 (by decide) (fun hc => ?_) (fun hc => ?_)
    · rw [if_pos hc] at h
      refine j_iload_n hX 2 dX3_senseWith_62 rfl rfl ?_
      cases h
      exact j_iret hX hR dX3_senseWith_63
    · rw [if_neg hc] at h
      refine j_aload_n hX 0 dX3_senseWith_12 rfl rfl ?_
      refine j_getS (k := 1) hX hfl cbX3 ty38 (by decide) rfl wd298 rfl sb38_1 dX3_senseWith_13 ?_
      refine j_iload_n hX 3 dX3_senseWith_16 rfl rfl ?_
      obtain ⟨x1, h1, h⟩ := bs h
      refine j_callVI hX mwX8_wordAt miX8_wordAt wd850 cbX8 ty30 hyX8_wordAt (by omega) (by decide) ⟨Nat.zero_le _, Nat.zero_le _⟩ dX3_senseWith_17 (s_X8_wordAt hfl hE h1) npX8_wordAt rfl (Nat.le_of_ble_eq_true rfl) ?_
      refine j_istore (L' := [(4, vI (x1)), (0, vR 38), (1, vI (v1)), (2, vI (v2)), (3, vI (v3))]) hX dX3_senseWith_20 hnl (by decide) rfl ?_
      refine j_iload_n hX 3 dX3_senseWith_22 rfl rfl ?_
      refine j_aload_n hX 1 dX3_senseWith_23 rfl rfl ?_
      refine j_getS (k := 0) hX hfl cbX3 ty38 (by decide) rfl wd297 rfl sb38_0 dX3_senseWith_24 ?_
      refine j_iload_n hX 2 dX3_senseWith_27 rfl rfl ?_
      refine j_iload_n hX 4 dX3_senseWith_28 rfl rfl ?_
      refine j_callNI hX mwX9_isIn msX9_isIn (fun h => h.2.1.2.2) hyX9_isIn (by omega) (by decide) ⟨Nat.zero_le _, Nat.zero_le _⟩ dX3_senseWith_29 (s_X9_isIn hfl rfl) npX9_isIn rfl (Nat.le_of_ble_eq_true rfl) ?_
      refine j_if_eq hX (tgt := 48) dX3_senseWith_32 (by decide) (fun hc => ?_) (fun hc => ?_)
      · rw [if_pos hc] at h
        refine j_iload hX 0 dX3_senseWith_48 rfl ?_
        refine j_iconst hX dX3_senseWith_50 (rc rfl) ?_
        obtain ⟨x2, h1, h⟩ := bs h
        refine j_callVI hX mwX5_value miX5_value wd858 cbX5 ty1 hyX5_value (by omega) (by decide) ⟨Nat.zero_le _, Nat.zero_le _⟩ dX3_senseWith_51 (s_X5_value hfl hE h1) npX5_value rfl (Nat.le_of_ble_eq_true rfl) ?_
        refine j_ior hX dX3_senseWith_54 ?_
        refine j_istore_n (L' := [(2, vI (o_or v2 x2)), (4, vI (x1)), (0, vR 38), (1, vI (v1)), (3, vI (v3))]) hX dX3_senseWith_55 rfl hnl (by decide) rfl ?_
        refine j_iinc (L' := [(3, vI (w32 (v3 + 1))), (2, vI (o_or v2 x2)), (4, vI (x1)), (0, vR 38), (1, vI (v1))]) hX 4 dX3_senseWith_56 hnl (by decide) rfl rfl ?_
        refine j_goto hX (tgt := 4) dX3_senseWith_59 (by decide) ?_
        refine j_sub [3, 4, 1, 0] rfl ?_
        exact ih _ _ h
      · rw [if_neg hc] at h
        refine j_aload_n hX 1 dX3_senseWith_35 rfl rfl ?_
        refine j_getS (k := 0) hX hfl cbX3 ty38 (by decide) rfl wd297 rfl sb38_0 dX3_senseWith_36 ?_
        refine j_iload hX 0 dX3_senseWith_39 rfl ?_
        refine j_iconst hX dX3_senseWith_41 (rc rfl) ?_
        obtain ⟨x3, h1, h⟩ := bs h
        refine j_callVI hX mwX5_value miX5_value wd858 cbX5 ty1 hyX5_value (by omega) (by decide) ⟨Nat.zero_le _, Nat.zero_le _⟩ dX3_senseWith_42 (s_X5_value hfl hE h1) npX5_value rfl (Nat.le_of_ble_eq_true rfl) ?_
        refine j_goto hX (tgt := 50) dX3_senseWith_45 (by decide) ?_
        refine j_iconst hX dX3_senseWith_50 (rc rfl) ?_
        obtain ⟨x4, h1, h⟩ := bs h
        refine j_callVI hX mwX5_value miX5_value wd858 cbX5 ty1 hyX5_value (by omega) (by decide) ⟨Nat.zero_le _, Nat.zero_le _⟩ dX3_senseWith_51 (s_X5_value hfl hE h1) npX5_value rfl (Nat.le_of_ble_eq_true rfl) ?_
        refine j_ior hX dX3_senseWith_54 ?_
        refine j_istore_n (L' := [(2, vI (o_or v2 x4)), (4, vI (x1)), (0, vR 38), (1, vI (v1)), (3, vI (v3))]) hX dX3_senseWith_55 rfl hnl (by decide) rfl ?_
        refine j_iinc (L' := [(3, vI (w32 (v3 + 1))), (2, vI (o_or v2 x4)), (4, vI (x1)), (0, vR 38), (1, vI (v1))]) hX 4 dX3_senseWith_56 hnl (by decide) rfl rfl ?_
        refine j_goto hX (tgt := 4) dX3_senseWith_59 (by decide) ?_
        refine j_sub [3, 4, 1, 0] rfl ?_
        exact ih _ _ h
theorem s_X3_senseWith {g : G0} {B : Nat → Nat} {n : Nat} {E : Mem → Mem} {a1 : Int} {S : Mem} {r : Int} (hfl : g.2.2.2.2 = true) (hE : Lens E PC) (h : g_X3_senseWith a1 S = some r) : Cn g B n yX3_senseWith cX3_senseWith 5 (some .int) 3 [vR 38, vI (a1)] (E S) (QcI g B n r (E S)) := by
  refine Cn.of (by decide +kernel) (Nat.le_of_ble_eq_true rfl) (fun X hg hnl hX hR => ?_)
  subst hg
  have hX : Ctx X cX3_senseWith "TelegramFeelings$Hearing" 3 := hX
  unfold g_X3_senseWith at h
  show JW X B n 0 0 0 [(0, vR 38), (1, vI (a1))] [] (E S) (QM X (QcI (gX X) B n r (E S)))
  refine j_iconst hX dX3_senseWith_0 (rc rfl) ?_
  refine j_istore_n (L' := [(2, vI (0)), (0, vR 38), (1, vI (a1))]) hX dX3_senseWith_1 rfl hnl (by decide) rfl ?_
  refine j_iconst hX dX3_senseWith_2 (rc rfl) ?_
  refine j_istore_n (L' := [(3, vI (0)), (2, vI (0)), (0, vR 38), (1, vI (a1))]) hX dX3_senseWith_3 rfl hnl (by decide) rfl ?_
  refine j_sub [2, 3, 1, 0] rfl ?_
  refine sl_X3_senseWith_4 hX hR hfl hnl hE  _ _ _ h
theorem sl_X8_senseOfFirst_4 {X : K0} {B : Nat → Nat} {n : Nat} {E : Mem → Mem} {r : Int} (hX : Ctx X cX8_senseOfFirst "TelegramFeelings$Telegram" 3) (hR : CR X (some .int)) (hfl : (gX X).2.2.2.2 = true) (hnl : X.2.2.2.2.2.2.2.2.2.2.2.2.2.2 = 4) (hE : Lens E PC)  {v1 : Int} {S : Mem}  : ∀ (fu : Nat) (v2 : Int) (v3 : Int), g_X8_senseOfFirst_L4 v1 S fu v2 v3 = some r → JW X B n 0 0 4 [(0, vR 30), (1, vI (v1)), (2, vI (v2)), (3, vI (v3))] [] (E S) (QM X (QcI (gX X) B n r (E S))) := by
  intro fu
  induction fu with
  | zero =>
    intro v2 v3 h
    rw [g_X8_senseOfFirst_L4] at h
    cases h
  | succ fu ih =>
    intro v2 v3 h
    rw [g_X8_senseOfFirst_L4] at h
    refine j_iload_n hX 3 dX8_senseOfFirst_4 rfl rfl ?_
    refine j_iload_n hX 1 dX8_senseOfFirst_5 rfl rfl ?_
    refine j_icmp_ge hX (tgt := 38) dX8_senseOfFirst_6 (by decide) (fun hc => ?_) (fun hc => ?_)
    · rw [if_pos hc] at h
      refine j_iload_n hX 2 dX8_senseOfFirst_38 rfl rfl ?_
      cases h
      exact j_iret hX hR dX8_senseOfFirst_39
    · rw [if_neg hc] at h
      refine j_iload_n hX 3 dX8_senseOfFirst_9 rfl rfl ?_
      refine j_bipush hX dX8_senseOfFirst_10 (rc rfl) (by decide) ?_
      refine j_icmp_ge hX (tgt := 38) dX8_senseOfFirst_12 (by decide) (fun hc => ?_) (fun hc => ?_)
      · rw [if_pos hc] at h
        refine j_iload_n hX 2 dX8_senseOfFirst_38 rfl rfl ?_
        cases h
        exact j_iret hX hR dX8_senseOfFirst_39
      · rw [if_neg hc] at h
        refine j_iload_n hX 2 dX8_senseOfFirst_15 rfl rfl ?_
        refine j_aload_n hX 0 dX8_senseOfFirst_16 rfl rfl ?_
        refine j_getS (k := 0) hX hfl cbX8 ty30 (by decide) rfl wd245 rfl sb30_0 dX8_senseOfFirst_17 ?_
        refine j_aload_n hX 0 dX8_senseOfFirst_20 rfl rfl ?_
        refine j_getS (k := 2) hX hfl cbX8 ty30 (by decide) rfl wd247 rfl sb30_2 dX8_senseOfFirst_21 ?_
        refine j_iload_n hX 3 dX8_senseOfFirst_24 rfl rfl ?_
        obtain ⟨x1, hv, h⟩ := bs h
        refine j_iald hX hE ty31 pc31 hv dX8_senseOfFirst_25 ?_
        refine j_iconst hX dX8_senseOfFirst_26 (rc rfl) ?_
        obtain ⟨x2, h1, h⟩ := bs h
        refine j_callVI hX mwX5_value miX5_value wd708 cbX5 ty1 hyX5_value (by omega) (by decide) ⟨Nat.zero_le _, Nat.zero_le _⟩ dX8_senseOfFirst_27 (s_X5_value hfl hE h1) npX5_value rfl (Nat.le_of_ble_eq_true rfl) ?_
        refine j_ior hX dX8_senseOfFirst_30 ?_
        refine j_istore_n (L' := [(2, vI (o_or v2 x2)), (0, vR 30), (1, vI (v1)), (3, vI (v3))]) hX dX8_senseOfFirst_31 rfl hnl (by decide) rfl ?_
        refine j_iinc (L' := [(3, vI (w32 (v3 + 1))), (2, vI (o_or v2 x2)), (0, vR 30), (1, vI (v1))]) hX 3 dX8_senseOfFirst_32 hnl (by decide) rfl rfl ?_
        refine j_goto hX (tgt := 4) dX8_senseOfFirst_35 (by decide) ?_
        refine j_sub [2, 3, 1, 0] rfl ?_
        exact ih _ _ h
theorem s_X8_senseOfFirst {g : G0} {B : Nat → Nat} {n : Nat} {E : Mem → Mem} {a1 : Int} {S : Mem} {r : Int} (hfl : g.2.2.2.2 = true) (hE : Lens E PC) (h : g_X8_senseOfFirst a1 S = some r) : Cn g B n yX8_senseOfFirst cX8_senseOfFirst 4 (some .int) 3 [vR 30, vI (a1)] (E S) (QcI g B n r (E S)) := by
  refine Cn.of (by decide +kernel) (Nat.le_of_ble_eq_true rfl) (fun X hg hnl hX hR => ?_)
  subst hg
  have hX : Ctx X cX8_senseOfFirst "TelegramFeelings$Telegram" 3 := hX
  unfold g_X8_senseOfFirst at h
  show JW X B n 0 0 0 [(0, vR 30), (1, vI (a1))] [] (E S) (QM X (QcI (gX X) B n r (E S)))
  refine j_iconst hX dX8_senseOfFirst_0 (rc rfl) ?_
  refine j_istore_n (L' := [(2, vI (0)), (0, vR 30), (1, vI (a1))]) hX dX8_senseOfFirst_1 rfl hnl (by decide) rfl ?_
  refine j_iconst hX dX8_senseOfFirst_2 (rc rfl) ?_
  refine j_istore_n (L' := [(3, vI (0)), (2, vI (0)), (0, vR 30), (1, vI (a1))]) hX dX8_senseOfFirst_3 rfl hnl (by decide) rfl ?_
  refine j_sub [2, 3, 1, 0] rfl ?_
  refine sl_X8_senseOfFirst_4 hX hR hfl hnl hE  _ _ _ h
theorem sl_X3_unharmed_24 {X : K0} {B : Nat → Nat} {n : Nat} {E : Mem → Mem} {r : Int} (hX : Ctx X cX3_unharmed "TelegramFeelings$Hearing" 4) (hR : CR X (some .long)) (hfl : (gX X).2.2.2.2 = true) (hnl : X.2.2.2.2.2.2.2.2.2.2.2.2.2.2 = 6) (hE : Lens E PC)  {v1 : Int} {v2 : Int} {S : Mem}  : ∀ (fu : Nat) (v3 : Int) (v5 : Int), g_X3_unharmed_L24 v1 v2 S fu v3 v5 = some r → JW X B n 0 0 24 [(0, vR 38), (1, vI (v1)), (2, vI (v2)), (3, vL (v3)), (5, vI (v5))] [] (E S) (QM X (QcL (gX X) B n r (E S))) := by
  intro fu
  induction fu with
  | zero =>
    intro v3 v5 h
    rw [g_X3_unharmed_L24] at h
    cases h
  | succ fu ih =>
    intro v3 v5 h
    rw [g_X3_unharmed_L24] at h
    refine j_iload hX 4 dX3_unharmed_24 rfl ?_
    refine j_iload_n hX 2 dX3_unharmed_26 rfl rfl ?_
    refine j_icmp_ge hX (tgt := 55) dX3_unharmed_27 (by decide) (fun hc => ?_) (fun hc => ?_)
    · rw [if_pos hc] at h
      refine j_lload_n hX 3 dX3_unharmed_55 rfl rfl ?_
      cases h
      exact j_lret hX hR dX3_unharmed_56
    · rw [if_neg hc] at h
      refine j_aload_n hX 0 dX3_unharmed_30 rfl rfl ?_
      refine j_iload hX 4 dX3_unharmed_31 rfl ?_
      obtain ⟨x2, h1, h⟩ := bs h
      refine j_callVI hX mwX3_senseWith miX3_senseWith wd909 cbX3 ty38 hyX3_senseWith (by omega) (by decide) ⟨Nat.zero_le _, Nat.zero_le _⟩ dX3_unharmed_33 (s_X3_senseWith hfl hE h1) npX3_senseWith rfl (Nat.le_of_ble_eq_true rfl) ?_
      refine j_iload_n hX 1 dX3_unharmed_36 rfl rfl ?_
      refine j_icmp_ne hX (tgt := 49) dX3_unharmed_37 (by decide) (fun hc => ?_) (fun hc => ?_)
      · rw [if_neg hc] at h
        refine j_iinc (L' := [(5, vI (w32 (v5 + 1))), (0, vR 38), (1, vI (v1)), (2, vI (v2)), (3, vL (v3))]) hX 4 dX3_unharmed_49 hnl (by decide) rfl rfl ?_
        refine j_goto hX (tgt := 24) dX3_unharmed_52 (by decide) ?_
        refine j_sub [1, 2, 3, 4, 0] rfl ?_
        exact ih _ _ h
      · rw [if_pos hc] at h
        refine j_lload_n hX 3 dX3_unharmed_40 rfl rfl ?_
        refine j_aload_n hX 0 dX3_unharmed_41 rfl rfl ?_
        refine j_iload hX 4 dX3_unharmed_42 rfl ?_
        obtain ⟨x3, h1, h⟩ := bs h
        refine j_callVL hX mwX3_oddsWith miX3_oddsWith wd916 cbX3 ty38 hyX3_oddsWith (by omega) (by decide) ⟨Nat.zero_le _, Nat.zero_le _⟩ dX3_unharmed_44 (s_X3_oddsWith hfl hE h1) npX3_oddsWith rfl (Nat.le_of_ble_eq_true rfl) ?_
        refine j_ladd hX dX3_unharmed_47 ?_
        refine j_lstore_n (L' := [(3, vL (w64 (v3 + x3))), (0, vR 38), (1, vI (v1)), (2, vI (v2)), (5, vI (v5))]) hX dX3_unharmed_48 rfl hnl (by decide) rfl ?_
        refine j_iinc (L' := [(5, vI (w32 (v5 + 1))), (3, vL (w64 (v3 + x3))), (0, vR 38), (1, vI (v1)), (2, vI (v2))]) hX 4 dX3_unharmed_49 hnl (by decide) rfl rfl ?_
        refine j_goto hX (tgt := 24) dX3_unharmed_52 (by decide) ?_
        refine j_sub [2, 3, 4, 1, 0] rfl ?_
        exact ih _ _ h
theorem s_X3_unharmed {g : G0} {B : Nat → Nat} {n : Nat} {E : Mem → Mem}  {S : Mem} {r : Int} (hfl : g.2.2.2.2 = true) (hE : Lens E PC) (h : g_X3_unharmed S = some r) : Cn g B n yX3_unharmed cX3_unharmed 6 (some .long) 4 [vR 38] (E S) (QcL g B n r (E S)) := by
  refine Cn.of (by decide +kernel) (Nat.le_of_ble_eq_true rfl) (fun X hg hnl hX hR => ?_)
  subst hg
  have hX : Ctx X cX3_unharmed "TelegramFeelings$Hearing" 4 := hX
  unfold g_X3_unharmed at h
  show JW X B n 0 0 0 [(0, vR 38)] [] (E S) (QM X (QcL (gX X) B n r (E S)))
  refine j_aload_n hX 0 dX3_unharmed_0 rfl rfl ?_
  refine j_getS (k := 1) hX hfl cbX3 ty38 (by decide) rfl wd298 rfl sb38_1 dX3_unharmed_1 ?_
  refine j_aload_n hX 0 dX3_unharmed_4 rfl rfl ?_
  refine j_callVI hX mwX3_size miX3_size wd845 cbX3 ty38 hyX3_size (by omega) (by decide) ⟨Nat.zero_le _, Nat.zero_le _⟩ dX3_unharmed_5 (s_X3_size hfl hE rfl) npX3_size rfl (Nat.le_of_ble_eq_true rfl) ?_
  obtain ⟨x1, h1, h⟩ := bs h
  refine j_callVI hX mwX8_senseOfFirst miX8_senseOfFirst wd908 cbX8 ty30 hyX8_senseOfFirst (by omega) (by decide) ⟨Nat.zero_le _, Nat.zero_le _⟩ dX3_unharmed_8 (s_X8_senseOfFirst hfl hE h1) npX8_senseOfFirst rfl (Nat.le_of_ble_eq_true rfl) ?_
  refine j_istore_n (L' := [(1, vI (x1)), (0, vR 38)]) hX dX3_unharmed_11 rfl hnl (by decide) rfl ?_
  refine j_iconst hX dX3_unharmed_12 (rc rfl) ?_
  refine j_aload_n hX 1 dX3_unharmed_13 rfl rfl ?_
  refine j_callVI hX mwX3_size miX3_size wd845 cbX3 ty38 hyX3_size (by omega) (by decide) ⟨Nat.zero_le _, Nat.zero_le _⟩ dX3_unharmed_14 (s_X3_size hfl hE rfl) npX3_size rfl (Nat.le_of_ble_eq_true rfl) ?_
  refine j_ishl hX dX3_unharmed_17 ?_
  refine j_istore_n (L' := [(2, vI (o_shl 1 (g_X3_size S))), (1, vI (x1)), (0, vR 38)]) hX dX3_unharmed_18 rfl hnl (by decide) rfl ?_
  refine j_lconst (z := 0) hX dX3_unharmed_19 rfl (rcl rfl) ?_
  refine j_lstore_n (L' := [(3, vL (0)), (2, vI (o_shl 1 (g_X3_size S))), (1, vI (x1)), (0, vR 38)]) hX dX3_unharmed_20 rfl hnl (by decide) rfl ?_
  refine j_iconst hX dX3_unharmed_21 (rc rfl) ?_
  refine j_istore (L' := [(5, vI (0)), (3, vL (0)), (2, vI (o_shl 1 (g_X3_size S))), (1, vI (x1)), (0, vR 38)]) hX dX3_unharmed_22 hnl (by decide) rfl ?_
  refine j_sub [4, 3, 2, 1, 0] rfl ?_
  refine sl_X3_unharmed_24 hX hR hfl hnl hE  _ _ _ h
theorem s_X8_mayEnd {g : G0} {B : Nat → Nat} {n : Nat} {M : Mem} {a1 : Int} {r : Int} (hfl : g.2.2.2.2 = true) (h : g_X8_mayEnd a1 = r) : Cn g B n yX8_mayEnd cX8_mayEnd 1 (some .boolean) 1 [vI (a1)] M (QcI g B n r M) := by
  refine Cn.of (by decide +kernel) (Nat.le_of_ble_eq_true rfl) (fun X hg hnl hX hR => ?_)
  subst hg
  have hX : Ctx X cX8_mayEnd "TelegramFeelings$Telegram" 1 := hX
  unfold g_X8_mayEnd at h
  show JW X B n 0 0 0 [(0, vI (a1))] [] (M) (QM X (QcI (gX X) B n r M))
  refine j_iload_n hX 0 dX8_mayEnd_0 rfl rfl ?_
  refine j_iconst hX dX8_mayEnd_1 (rc rfl) ?_
  refine j_icmp_eq hX (tgt := 10) dX8_mayEnd_2 (by decide) (fun hc => ?_) (fun hc => ?_)
  · rw [if_pos hc] at h
    refine j_iconst hX dX8_mayEnd_10 (rc rfl) ?_
    refine j_goto hX (tgt := 15) dX8_mayEnd_11 (by decide) ?_
    subst h
    exact j_zret hX hR (Or.inr rfl) dX8_mayEnd_15
  · rw [if_neg hc] at h
    refine j_iload_n hX 0 dX8_mayEnd_5 rfl rfl ?_
    refine j_iconst hX dX8_mayEnd_6 (rc rfl) ?_
    refine j_icmp_ne hX (tgt := 14) dX8_mayEnd_7 (by decide) (fun hc => ?_) (fun hc => ?_)
    · rw [if_neg hc] at h
      refine j_iconst hX dX8_mayEnd_14 (rc rfl) ?_
      subst h
      exact j_zret hX hR (Or.inl rfl) dX8_mayEnd_15
    · rw [if_pos hc] at h
      refine j_iconst hX dX8_mayEnd_10 (rc rfl) ?_
      refine j_goto hX (tgt := 15) dX8_mayEnd_11 (by decide) ?_
      subst h
      exact j_zret hX hR (Or.inr rfl) dX8_mayEnd_15
theorem sj_X3_draws_131 {X : K0} {B : Nat → Nat} {n : Nat} {E : Mem → Mem} {r : Int} (hX : Ctx X cX3_draws "TelegramFeelings$Hearing" 3) (hR : CR X (some .int)) (hfl : (gX X).2.2.2.2 = true) (hnl : X.2.2.2.2.2.2.2.2.2.2.2.2.2.2 = 16) (hE : Lens E PC) {c : Int → Int → Int → Int → Int → Int → Option Int}   {v2 : Int} {v3 : Int} {v4 : Int} {v5 : Int} {v6 : Int} {v7 : Int} {v8 : Int} {v10 : Int} {v11 : Int} {v13 : Int} {v14 : Int} {v15 : Int} {s0 : Int} {S : Mem} (Hc : ∀ (v7 : Int) (v9 : Int) (v10 : Int) (v11 : Int) (v12 : Int) (v13 : Int), c v7 v9 v10 v11 v12 v13 = some r → JW X B n 0 0 56 [(0, vR 38), (2, vI (v2)), (3, vI (v3)), (4, vI (v4)), (5, vI (v5)), (6, vI (v6)), (7, vI (v7)), (8, vI (v8)), (9, vI (v9)), (10, vI (v10)), (11, vI (v11)), (12, vI (v12)), (13, vI (v13))] [] (E S) (QM X (QcI (gX X) B n r (E S)))) (h : g_X3_draws_J131 c v2 v3 v4 v5 v6 v7 v8 v10 v11 v13 v14 v15 s0 S = some r) : JW X B n 0 0 131 [(0, vR 38), (2, vI (v2)), (3, vI (v3)), (4, vI (v4)), (5, vI (v5)), (6, vI (v6)), (7, vI (v7)), (8, vI (v8)), (10, vI (v10)), (11, vI (v11)), (13, vI (v13)), (14, vI (v14)), (15, vI (v15))] [vI (s0)] (E S) (QM X (QcI (gX X) B n r (E S))) := by
  unfold g_X3_draws_J131 at h
  refine j_istore (L' := [(12, vI (s0)), (0, vR 38), (2, vI (v2)), (3, vI (v3)), (4, vI (v4)), (5, vI (v5)), (6, vI (v6)), (7, vI (v7)), (8, vI (v8)), (10, vI (v10)), (11, vI (v11)), (13, vI (v13)), (14, vI (v14)), (15, vI (v15))]) hX dX3_draws_131 hnl (by decide) rfl ?_
  refine j_aload_n hX 1 dX3_draws_133 rfl rfl ?_
  refine j_getS (k := 0) hX hfl cbX3 ty38 (by decide) rfl wd297 rfl sb38_0 dX3_draws_134 ?_
  refine j_iload hX 12 dX3_draws_137 rfl ?_
  refine j_iconst hX dX3_draws_139 (rc rfl) ?_
  obtain ⟨x4, h1, h⟩ := bs h
  refine j_callVI hX mwX5_value miX5_value wd858 cbX5 ty1 hyX5_value (by omega) (by decide) ⟨Nat.zero_le _, Nat.zero_le _⟩ dX3_draws_140 (s_X5_value hfl hE h1) npX5_value rfl (Nat.le_of_ble_eq_true rfl) ?_
  refine j_istore (L' := [(9, vI (x4)), (12, vI (s0)), (0, vR 38), (2, vI (v2)), (3, vI (v3)), (4, vI (v4)), (5, vI (v5)), (6, vI (v6)), (7, vI (v7)), (8, vI (v8)), (10, vI (v10)), (11, vI (v11)), (13, vI (v13)), (14, vI (v14)), (15, vI (v15))]) hX dX3_draws_143 hnl (by decide) rfl ?_
  refine j_iload hX 10 dX3_draws_145 rfl ?_
  refine j_aload_n hX 2 dX3_draws_147 rfl rfl ?_
  refine j_getS (k := 0) hX hfl cbX3 ty38 (by decide) rfl wd297 rfl sb38_0 dX3_draws_148 ?_
  refine j_iload hX 13 dX3_draws_151 rfl ?_
  refine j_iconst hX dX3_draws_153 (rc rfl) ?_
  obtain ⟨x5, h1, h⟩ := bs h
  refine j_callVI hX mwX5_value miX5_value wd858 cbX5 ty1 hyX5_value (by omega) (by decide) ⟨Nat.zero_le _, Nat.zero_le _⟩ dX3_draws_154 (s_X5_value hfl hE h1) npX5_value rfl (Nat.le_of_ble_eq_true rfl) ?_
  refine j_ior hX dX3_draws_157 ?_
  refine j_istore (L' := [(10, vI (o_or v10 x5)), (9, vI (x4)), (12, vI (s0)), (0, vR 38), (2, vI (v2)), (3, vI (v3)), (4, vI (v4)), (5, vI (v5)), (6, vI (v6)), (7, vI (v7)), (8, vI (v8)), (11, vI (v11)), (13, vI (v13)), (14, vI (v14)), (15, vI (v15))]) hX dX3_draws_158 hnl (by decide) rfl ?_
  refine j_iload hX 11 dX3_draws_160 rfl ?_
  refine j_aload_n hX 3 dX3_draws_162 rfl rfl ?_
  refine j_getS (k := 0) hX hfl cbX3 ty38 (by decide) rfl wd297 rfl sb38_0 dX3_draws_163 ?_
  refine j_iload hX 14 dX3_draws_166 rfl ?_
  refine j_if_eq hX (tgt := 184) dX3_draws_168 (by decide) (fun hc => ?_) (fun hc => ?_)
  · rw [if_pos hc] at h
    refine j_iload hX 13 dX3_draws_184 rfl ?_
    refine j_iconst hX dX3_draws_186 (rc rfl) ?_
    obtain ⟨x6, h1, h⟩ := bs h
    refine j_callVI hX mwX5_value miX5_value wd858 cbX5 ty1 hyX5_value (by omega) (by decide) ⟨Nat.zero_le _, Nat.zero_le _⟩ dX3_draws_187 (s_X5_value hfl hE h1) npX5_value rfl (Nat.le_of_ble_eq_true rfl) ?_
    refine j_ior hX dX3_draws_190 ?_
    refine j_istore (L' := [(11, vI (o_or v11 x6)), (10, vI (o_or v10 x5)), (9, vI (x4)), (12, vI (s0)), (0, vR 38), (2, vI (v2)), (3, vI (v3)), (4, vI (v4)), (5, vI (v5)), (6, vI (v6)), (7, vI (v7)), (8, vI (v8)), (13, vI (v13)), (14, vI (v14)), (15, vI (v15))]) hX dX3_draws_191 hnl (by decide) rfl ?_
    refine j_iinc (L' := [(13, vI (w32 (v13 + 1))), (11, vI (o_or v11 x6)), (10, vI (o_or v10 x5)), (9, vI (x4)), (12, vI (s0)), (0, vR 38), (2, vI (v2)), (3, vI (v3)), (4, vI (v4)), (5, vI (v5)), (6, vI (v6)), (7, vI (v7)), (8, vI (v8)), (14, vI (v14)), (15, vI (v15))]) hX 12 dX3_draws_193 hnl (by decide) rfl rfl ?_
    refine j_goto hX (tgt := 56) dX3_draws_196 (by decide) ?_
    refine j_sub [5, 6, 7, 8, 9, 10, 11, 12, 3, 2, 1, 4, 0] rfl ?_
    exact Hc _ _ _ _ _ _ h
  · rw [if_neg hc] at h
    refine j_aload_n hX 3 dX3_draws_171 rfl rfl ?_
    refine j_getS (k := 0) hX hfl cbX3 ty38 (by decide) rfl wd297 rfl sb38_0 dX3_draws_172 ?_
    refine j_iload hX 13 dX3_draws_175 rfl ?_
    refine j_iconst hX dX3_draws_177 (rc rfl) ?_
    obtain ⟨x7, h1, h⟩ := bs h
    refine j_callVI hX mwX5_value miX5_value wd858 cbX5 ty1 hyX5_value (by omega) (by decide) ⟨Nat.zero_le _, Nat.zero_le _⟩ dX3_draws_178 (s_X5_value hfl hE h1) npX5_value rfl (Nat.le_of_ble_eq_true rfl) ?_
    refine j_goto hX (tgt := 186) dX3_draws_181 (by decide) ?_
    refine j_iconst hX dX3_draws_186 (rc rfl) ?_
    obtain ⟨x8, h1, h⟩ := bs h
    refine j_callVI hX mwX5_value miX5_value wd858 cbX5 ty1 hyX5_value (by omega) (by decide) ⟨Nat.zero_le _, Nat.zero_le _⟩ dX3_draws_187 (s_X5_value hfl hE h1) npX5_value rfl (Nat.le_of_ble_eq_true rfl) ?_
    refine j_ior hX dX3_draws_190 ?_
    refine j_istore (L' := [(11, vI (o_or v11 x8)), (10, vI (o_or v10 x5)), (9, vI (x4)), (12, vI (s0)), (0, vR 38), (2, vI (v2)), (3, vI (v3)), (4, vI (v4)), (5, vI (v5)), (6, vI (v6)), (7, vI (v7)), (8, vI (v8)), (13, vI (v13)), (14, vI (v14)), (15, vI (v15))]) hX dX3_draws_191 hnl (by decide) rfl ?_
    refine j_iinc (L' := [(13, vI (w32 (v13 + 1))), (11, vI (o_or v11 x8)), (10, vI (o_or v10 x5)), (9, vI (x4)), (12, vI (s0)), (0, vR 38), (2, vI (v2)), (3, vI (v3)), (4, vI (v4)), (5, vI (v5)), (6, vI (v6)), (7, vI (v7)), (8, vI (v8)), (14, vI (v14)), (15, vI (v15))]) hX 12 dX3_draws_193 hnl (by decide) rfl rfl ?_
    refine j_goto hX (tgt := 56) dX3_draws_196 (by decide) ?_
    refine j_sub [5, 6, 7, 8, 9, 10, 11, 12, 3, 2, 1, 4, 0] rfl ?_
    exact Hc _ _ _ _ _ _ h
theorem sj_X3_draws_130 {X : K0} {B : Nat → Nat} {n : Nat} {E : Mem → Mem} {r : Int} (hX : Ctx X cX3_draws "TelegramFeelings$Hearing" 3) (hR : CR X (some .int)) (hfl : (gX X).2.2.2.2 = true) (hnl : X.2.2.2.2.2.2.2.2.2.2.2.2.2.2 = 16) (hE : Lens E PC) {c : Int → Int → Int → Int → Int → Int → Option Int}   {v2 : Int} {v3 : Int} {v4 : Int} {v5 : Int} {v6 : Int} {v7 : Int} {v8 : Int} {v10 : Int} {v11 : Int} {v13 : Int} {v14 : Int} {v15 : Int} {S : Mem} (Hc : ∀ (v7 : Int) (v9 : Int) (v10 : Int) (v11 : Int) (v12 : Int) (v13 : Int), c v7 v9 v10 v11 v12 v13 = some r → JW X B n 0 0 56 [(0, vR 38), (2, vI (v2)), (3, vI (v3)), (4, vI (v4)), (5, vI (v5)), (6, vI (v6)), (7, vI (v7)), (8, vI (v8)), (9, vI (v9)), (10, vI (v10)), (11, vI (v11)), (12, vI (v12)), (13, vI (v13))] [] (E S) (QM X (QcI (gX X) B n r (E S)))) (h : g_X3_draws_J130 c v2 v3 v4 v5 v6 v7 v8 v10 v11 v13 v14 v15 S = some r) : JW X B n 0 0 130 [(0, vR 38), (2, vI (v2)), (3, vI (v3)), (4, vI (v4)), (5, vI (v5)), (6, vI (v6)), (7, vI (v7)), (8, vI (v8)), (10, vI (v10)), (11, vI (v11)), (13, vI (v13)), (14, vI (v14)), (15, vI (v15))] [] (E S) (QM X (QcI (gX X) B n r (E S))) := by
  unfold g_X3_draws_J130 at h
  refine j_iconst hX dX3_draws_130 (rc rfl) ?_
  refine j_sub [0, 1, 2, 3, 4, 5, 6, 7, 8, 9, 10, 11, 12] rfl ?_
  exact sj_X3_draws_131 hX hR hfl hnl hE Hc  h
theorem sj_X3_draws_101 {X : K0} {B : Nat → Nat} {n : Nat} {E : Mem → Mem} {r : Int} (hX : Ctx X cX3_draws "TelegramFeelings$Hearing" 3) (hR : CR X (some .int)) (hfl : (gX X).2.2.2.2 = true) (hnl : X.2.2.2.2.2.2.2.2.2.2.2.2.2.2 = 16) (hE : Lens E PC) {c : Int → Int → Int → Int → Int → Int → Option Int}   {v2 : Int} {v3 : Int} {v4 : Int} {v5 : Int} {v6 : Int} {v7 : Int} {v8 : Int} {v9 : Int} {v10 : Int} {v11 : Int} {v12 : Int} {v13 : Int} {v14 : Int} {s0 : Int} {S : Mem} (Hc : ∀ (v7 : Int) (v9 : Int) (v10 : Int) (v11 : Int) (v12 : Int) (v13 : Int), c v7 v9 v10 v11 v12 v13 = some r → JW X B n 0 0 56 [(0, vR 38), (2, vI (v2)), (3, vI (v3)), (4, vI (v4)), (5, vI (v5)), (6, vI (v6)), (7, vI (v7)), (8, vI (v8)), (9, vI (v9)), (10, vI (v10)), (11, vI (v11)), (12, vI (v12)), (13, vI (v13))] [] (E S) (QM X (QcI (gX X) B n r (E S)))) (h : g_X3_draws_J101 c v2 v3 v4 v5 v6 v7 v8 v9 v10 v11 v12 v13 v14 s0 S = some r) : JW X B n 0 0 101 [(0, vR 38), (2, vI (v2)), (3, vI (v3)), (4, vI (v4)), (5, vI (v5)), (6, vI (v6)), (7, vI (v7)), (8, vI (v8)), (9, vI (v9)), (10, vI (v10)), (11, vI (v11)), (12, vI (v12)), (13, vI (v13)), (14, vI (v14))] [vI (s0)] (E S) (QM X (QcI (gX X) B n r (E S))) := by
  unfold g_X3_draws_J101 at h
  refine j_istore (L' := [(15, vI (s0)), (0, vR 38), (2, vI (v2)), (3, vI (v3)), (4, vI (v4)), (5, vI (v5)), (6, vI (v6)), (7, vI (v7)), (8, vI (v8)), (9, vI (v9)), (10, vI (v10)), (11, vI (v11)), (12, vI (v12)), (13, vI (v13)), (14, vI (v14))]) hX dX3_draws_101 hnl (by decide) rfl ?_
  refine j_iload hX 12 dX3_draws_103 rfl ?_
  refine j_if_eq hX (tgt := 130) dX3_draws_105 (by decide) (fun hc => ?_) (fun hc => ?_)
  · rw [if_pos hc] at h
    refine j_sub [1, 2, 3, 4, 5, 6, 7, 8, 10, 11, 13, 14, 0] rfl ?_
    exact sj_X3_draws_130 hX hR hfl hnl hE Hc  h
  · rw [if_neg hc] at h
    refine j_iload hX 9 dX3_draws_108 rfl ?_
    refine j_aload_n hX 1 dX3_draws_110 rfl rfl ?_
    refine j_getS (k := 0) hX hfl cbX3 ty38 (by decide) rfl wd297 rfl sb38_0 dX3_draws_111 ?_
    refine j_iload hX 14 dX3_draws_114 rfl ?_
    refine j_iconst hX dX3_draws_116 (rc rfl) ?_
    obtain ⟨x9, h1, h⟩ := bs h
    refine j_callVI hX mwX5_value miX5_value wd858 cbX5 ty1 hyX5_value (by omega) (by decide) ⟨Nat.zero_le _, Nat.zero_le _⟩ dX3_draws_117 (s_X5_value hfl hE h1) npX5_value rfl (Nat.le_of_ble_eq_true rfl) ?_
    refine j_callSI hX mwX8_follows msX8_follows wd863 hyX8_follows (by omega) (by decide) ⟨Nat.zero_le _, Nat.zero_le _⟩ dX3_draws_120 (s_X8_follows hfl rfl) npX8_follows rfl (Nat.le_of_ble_eq_true rfl) ?_
    refine j_if_eq hX (tgt := 130) dX3_draws_123 (by decide) (fun hc => ?_) (fun hc => ?_)
    · rw [if_pos hc] at h
      refine j_sub [1, 2, 3, 4, 5, 6, 7, 8, 10, 11, 13, 14, 0] rfl ?_
      exact sj_X3_draws_130 hX hR hfl hnl hE Hc  h
    · rw [if_neg hc] at h
      refine j_iconst hX dX3_draws_126 (rc rfl) ?_
      refine j_goto hX (tgt := 131) dX3_draws_127 (by decide) ?_
      refine j_sub [1, 2, 3, 4, 5, 6, 7, 8, 10, 11, 13, 14, 0] rfl ?_
      exact sj_X3_draws_131 hX hR hfl hnl hE Hc  h
theorem sl_X3_draws_56 {X : K0} {B : Nat → Nat} {n : Nat} {E : Mem → Mem} {r : Int} (hX : Ctx X cX3_draws "TelegramFeelings$Hearing" 3) (hR : CR X (some .int)) (hfl : (gX X).2.2.2.2 = true) (hnl : X.2.2.2.2.2.2.2.2.2.2.2.2.2.2 = 16) (hE : Lens E PC) {k199 : Int → Int → Int → Int → Int → Option Int} {v2 : Int} {v3 : Int} {v4 : Int} {v5 : Int} {v6 : Int} {v8 : Int} {S : Mem} (K199 : ∀ (v7 : Int) (v9 : Int) (v10 : Int) (v11 : Int) (v12 : Int), k199 v7 v9 v10 v11 v12 = some r → JW X B n 0 0 199 [(0, vR 38), (2, vI (v2)), (3, vI (v3)), (4, vI (v4)), (5, vI (v5)), (6, vI (v6)), (7, vI (v7)), (8, vI (v8)), (9, vI (v9)), (10, vI (v10)), (11, vI (v11)), (12, vI (v12))] [] (E S) (QM X (QcI (gX X) B n r (E S)))) : ∀ (fu : Nat) (v7 : Int) (v9 : Int) (v10 : Int) (v11 : Int) (v12 : Int) (v13 : Int), g_X3_draws_L56 k199 v2 v3 v4 v5 v6 v8 S fu v7 v9 v10 v11 v12 v13 = some r → JW X B n 0 0 56 [(0, vR 38), (2, vI (v2)), (3, vI (v3)), (4, vI (v4)), (5, vI (v5)), (6, vI (v6)), (7, vI (v7)), (8, vI (v8)), (9, vI (v9)), (10, vI (v10)), (11, vI (v11)), (12, vI (v12)), (13, vI (v13))] [] (E S) (QM X (QcI (gX X) B n r (E S))) := by
  intro fu
  induction fu with
  | zero =>
    intro v7 v9 v10 v11 v12 v13 h
    rw [g_X3_draws_L56] at h
    cases h
  | succ fu ih =>
    intro v7 v9 v10 v11 v12 v13 h
    rw [g_X3_draws_L56] at h
    refine j_iload hX 12 dX3_draws_56 rfl ?_
    refine j_iconst hX dX3_draws_58 (rc rfl) ?_
    refine j_icmp_ge hX (tgt := 199) dX3_draws_59 (by decide) (fun hc => ?_) (fun hc => ?_)
    · rw [if_pos hc] at h
      refine j_sub [0, 1, 2, 3, 4, 5, 6, 7, 8, 9, 10, 11] rfl ?_
      exact K199 _ _ _ _ _ h
    · rw [if_neg hc] at h
      refine j_iload hX 6 dX3_draws_62 rfl ?_
      refine j_ldc (z := 1103515245) hX wd962 (by decide) dX3_draws_64 (rc rfl) ?_
      refine j_imul hX dX3_draws_66 ?_
      refine j_sipush hX dX3_draws_67 (rc rfl) (by decide) ?_
      refine j_iadd hX dX3_draws_70 ?_
      obtain ⟨x2, hx, h⟩ := ap_s h
      rw [← hx]
      clear hx
      refine j_istore (L' := [(7, vI (x2)), (0, vR 38), (2, vI (v2)), (3, vI (v3)), (4, vI (v4)), (5, vI (v5)), (6, vI (v6)), (8, vI (v8)), (9, vI (v9)), (10, vI (v10)), (11, vI (v11)), (12, vI (v12)), (13, vI (v13))]) hX dX3_draws_71 hnl (by decide) rfl ?_
      refine j_iload hX 0 dX3_draws_73 rfl ?_
      refine j_bipush hX dX3_draws_75 (rc rfl) (by decide) ?_
      refine j_iushr hX dX3_draws_77 ?_
      refine j_iload hX 4 dX3_draws_78 rfl ?_
      obtain ⟨hz, h⟩ := chk_s h
      refine j_irem hX dX3_draws_80 hz ?_
      obtain ⟨x3, hx, h⟩ := ap_s h
      rw [← hx]
      clear hx
      refine j_istore (L' := [(14, vI (x3)), (7, vI (x2)), (0, vR 38), (2, vI (v2)), (3, vI (v3)), (4, vI (v4)), (5, vI (v5)), (6, vI (v6)), (8, vI (v8)), (9, vI (v9)), (10, vI (v10)), (11, vI (v11)), (12, vI (v12)), (13, vI (v13))]) hX dX3_draws_81 hnl (by decide) rfl ?_
      refine j_iload hX 1 dX3_draws_83 rfl ?_
      refine j_bipush hX dX3_draws_85 (rc rfl) (by decide) ?_
      refine j_iushr hX dX3_draws_87 ?_
      refine j_bipush hX dX3_draws_88 (rc rfl) (by decide) ?_
      refine j_irem hX dX3_draws_90 (by decide) ?_
      refine j_iload hX 6 dX3_draws_91 rfl ?_
      refine j_icmp_ge hX (tgt := 100) dX3_draws_93 (by decide) (fun hc => ?_) (fun hc => ?_)
      · rw [if_pos hc] at h
        refine j_iconst hX dX3_draws_100 (rc rfl) ?_
        refine j_sub [2, 3, 4, 5, 6, 7, 1, 8, 9, 10, 11, 12, 13, 0] rfl ?_
        exact sj_X3_draws_101 hX hR hfl hnl hE ih  h
      · rw [if_neg hc] at h
        refine j_iconst hX dX3_draws_96 (rc rfl) ?_
        refine j_goto hX (tgt := 101) dX3_draws_97 (by decide) ?_
        refine j_sub [2, 3, 4, 5, 6, 7, 1, 8, 9, 10, 11, 12, 13, 0] rfl ?_
        exact sj_X3_draws_101 hX hR hfl hnl hE ih  h
theorem sl_X3_draws_30 {X : K0} {B : Nat → Nat} {n : Nat} {E : Mem → Mem} {r : Int} (hX : Ctx X cX3_draws "TelegramFeelings$Hearing" 3) (hR : CR X (some .int)) (hfl : (gX X).2.2.2.2 = true) (hnl : X.2.2.2.2.2.2.2.2.2.2.2.2.2.2 = 16) (hE : Lens E PC)  {v2 : Int} {v3 : Int} {v4 : Int} {v5 : Int} {S : Mem}  : ∀ (fu : Nat) (v6 : Int) (v7 : Int) (v8 : Int), g_X3_draws_L30 v2 v3 v4 v5 S fu v6 v7 v8 = some r → JW X B n 0 0 30 [(0, vR 38), (2, vI (v2)), (3, vI (v3)), (4, vI (v4)), (5, vI (v5)), (6, vI (v6)), (7, vI (v7)), (8, vI (v8))] [] (E S) (QM X (QcI (gX X) B n r (E S))) := by
  intro fu
  induction fu with
  | zero =>
    intro v6 v7 v8 h
    rw [g_X3_draws_L30] at h
    cases h
  | succ fu ih =>
    intro v6 v7 v8 h
    rw [g_X3_draws_L30] at h
    refine j_iload hX 7 dX3_draws_30 rfl ?_
    refine j_iload_n hX 1 dX3_draws_32 rfl rfl ?_
    refine j_icmp_ge hX (tgt := 242) dX3_draws_33 (by decide) (fun hc => ?_) (fun hc => ?_)
    · rw [if_pos hc] at h
      refine j_iload hX 5 dX3_draws_242 rfl ?_
      cases h
      exact j_iret hX hR dX3_draws_244
    · rw [if_neg hc] at h
      refine j_iload hX 3 dX3_draws_36 rfl ?_
      refine j_if_le hX (tgt := 242) dX3_draws_38 (by decide) (fun hc => ?_) (fun hc => ?_)
      · rw [if_pos hc] at h
        refine j_iload hX 5 dX3_draws_242 rfl ?_
        cases h
        exact j_iret hX hR dX3_draws_244
      · rw [if_neg hc] at h
        refine j_iconst hX dX3_draws_41 (rc rfl) ?_
        refine j_istore (L' := [(9, vI (3)), (0, vR 38), (2, vI (v2)), (3, vI (v3)), (4, vI (v4)), (5, vI (v5)), (6, vI (v6)), (7, vI (v7)), (8, vI (v8))]) hX dX3_draws_42 hnl (by decide) rfl ?_
        refine j_iconst hX dX3_draws_44 (rc rfl) ?_
        refine j_istore (L' := [(10, vI (0)), (9, vI (3)), (0, vR 38), (2, vI (v2)), (3, vI (v3)), (4, vI (v4)), (5, vI (v5)), (6, vI (v6)), (7, vI (v7)), (8, vI (v8))]) hX dX3_draws_45 hnl (by decide) rfl ?_
        refine j_iconst hX dX3_draws_47 (rc rfl) ?_
        refine j_istore (L' := [(11, vI (0)), (10, vI (0)), (9, vI (3)), (0, vR 38), (2, vI (v2)), (3, vI (v3)), (4, vI (v4)), (5, vI (v5)), (6, vI (v6)), (7, vI (v7)), (8, vI (v8))]) hX dX3_draws_48 hnl (by decide) rfl ?_
        refine j_iconst hX dX3_draws_50 (rc rfl) ?_
        refine j_istore (L' := [(12, vI (1)), (11, vI (0)), (10, vI (0)), (9, vI (3)), (0, vR 38), (2, vI (v2)), (3, vI (v3)), (4, vI (v4)), (5, vI (v5)), (6, vI (v6)), (7, vI (v7)), (8, vI (v8))]) hX dX3_draws_51 hnl (by decide) rfl ?_
        refine j_iconst hX dX3_draws_53 (rc rfl) ?_
        refine j_istore (L' := [(13, vI (0)), (12, vI (1)), (11, vI (0)), (10, vI (0)), (9, vI (3)), (0, vR 38), (2, vI (v2)), (3, vI (v3)), (4, vI (v4)), (5, vI (v5)), (6, vI (v6)), (7, vI (v7)), (8, vI (v8))]) hX dX3_draws_54 hnl (by decide) rfl ?_
        refine j_sub [5, 6, 7, 8, 9, 10, 11, 12, 4, 3, 2, 1, 0] rfl ?_
        refine sl_X3_draws_56 hX hR hfl hnl hE (fun y10 y11 y12 y13 y14 h => ?_) _ _ _ _ _ _ _ h
        refine j_iload hX 5 dX3_draws_199 rfl ?_
        refine j_iload_n hX 2 dX3_draws_201 rfl rfl ?_
        refine j_if_eq hX (tgt := 221) dX3_draws_202 (by decide) (fun hc => ?_) (fun hc => ?_)
        · rw [if_pos hc] at h
          refine j_iload hX 9 dX3_draws_221 rfl ?_
          refine j_iload hX 10 dX3_draws_223 rfl ?_
          refine j_icmp_eq hX (tgt := 232) dX3_draws_225 (by decide) (fun hc => ?_) (fun hc => ?_)
          · rw [if_pos hc] at h
            refine j_iconst hX dX3_draws_232 (rc rfl) ?_
            refine j_iadd hX dX3_draws_233 ?_
            refine j_istore (L' := [(6, vI (w32 (v6 + 0))), (0, vR 38), (2, vI (v2)), (3, vI (v3)), (4, vI (v4)), (5, vI (v5)), (7, vI (y10)), (8, vI (v8)), (9, vI (y11)), (10, vI (y12)), (11, vI (y13)), (12, vI (y14))]) hX dX3_draws_234 hnl (by decide) rfl ?_
            refine j_iinc (L' := [(8, vI (w32 (v8 + 1))), (6, vI (w32 (v6 + 0))), (0, vR 38), (2, vI (v2)), (3, vI (v3)), (4, vI (v4)), (5, vI (v5)), (7, vI (y10)), (9, vI (y11)), (10, vI (y12)), (11, vI (y13)), (12, vI (y14))]) hX 7 dX3_draws_236 hnl (by decide) rfl rfl ?_
            refine j_goto hX (tgt := 30) dX3_draws_239 (by decide) ?_
            refine j_sub [2, 3, 4, 5, 6, 1, 7, 0] rfl ?_
            exact ih _ _ _ h
          · rw [if_neg hc] at h
            refine j_iconst hX dX3_draws_228 (rc rfl) ?_
            refine j_goto hX (tgt := 233) dX3_draws_229 (by decide) ?_
            refine j_iadd hX dX3_draws_233 ?_
            refine j_istore (L' := [(6, vI (w32 (v6 + 1))), (0, vR 38), (2, vI (v2)), (3, vI (v3)), (4, vI (v4)), (5, vI (v5)), (7, vI (y10)), (8, vI (v8)), (9, vI (y11)), (10, vI (y12)), (11, vI (y13)), (12, vI (y14))]) hX dX3_draws_234 hnl (by decide) rfl ?_
            refine j_iinc (L' := [(8, vI (w32 (v8 + 1))), (6, vI (w32 (v6 + 1))), (0, vR 38), (2, vI (v2)), (3, vI (v3)), (4, vI (v4)), (5, vI (v5)), (7, vI (y10)), (9, vI (y11)), (10, vI (y12)), (11, vI (y13)), (12, vI (y14))]) hX 7 dX3_draws_236 hnl (by decide) rfl rfl ?_
            refine j_goto hX (tgt := 30) dX3_draws_239 (by decide) ?_
            refine j_sub [2, 3, 4, 5, 6, 1, 7, 0] rfl ?_
            exact ih _ _ _ h
        · rw [if_neg hc] at h
          refine j_iload hX 11 dX3_draws_205 rfl ?_
          refine j_if_eq hX (tgt := 232) dX3_draws_207 (by decide) (fun hc => ?_) (fun hc => ?_)
          · rw [if_pos hc] at h
            refine j_iconst hX dX3_draws_232 (rc rfl) ?_
            refine j_iadd hX dX3_draws_233 ?_
            refine j_istore (L' := [(6, vI (w32 (v6 + 0))), (0, vR 38), (2, vI (v2)), (3, vI (v3)), (4, vI (v4)), (5, vI (v5)), (7, vI (y10)), (8, vI (v8)), (9, vI (y11)), (10, vI (y12)), (11, vI (y13)), (12, vI (y14))]) hX dX3_draws_234 hnl (by decide) rfl ?_
            refine j_iinc (L' := [(8, vI (w32 (v8 + 1))), (6, vI (w32 (v6 + 0))), (0, vR 38), (2, vI (v2)), (3, vI (v3)), (4, vI (v4)), (5, vI (v5)), (7, vI (y10)), (9, vI (y11)), (10, vI (y12)), (11, vI (y13)), (12, vI (y14))]) hX 7 dX3_draws_236 hnl (by decide) rfl rfl ?_
            refine j_goto hX (tgt := 30) dX3_draws_239 (by decide) ?_
            refine j_sub [2, 3, 4, 5, 6, 1, 7, 0] rfl ?_
            exact ih _ _ _ h
          · rw [if_neg hc] at h
            refine j_iload hX 8 dX3_draws_210 rfl ?_
            refine j_callSI hX mwX8_mayEnd msX8_mayEnd wd963 hyX8_mayEnd (by omega) (by decide) ⟨Nat.zero_le _, Nat.zero_le _⟩ dX3_draws_212 (s_X8_mayEnd hfl rfl) npX8_mayEnd rfl (Nat.le_of_ble_eq_true rfl) ?_
            refine j_if_eq hX (tgt := 232) dX3_draws_215 (by decide) (fun hc => ?_) (fun hc => ?_)
            · rw [if_pos hc] at h
              refine j_iconst hX dX3_draws_232 (rc rfl) ?_
              refine j_iadd hX dX3_draws_233 ?_
              refine j_istore (L' := [(6, vI (w32 (v6 + 0))), (0, vR 38), (2, vI (v2)), (3, vI (v3)), (4, vI (v4)), (5, vI (v5)), (7, vI (y10)), (8, vI (v8)), (9, vI (y11)), (10, vI (y12)), (11, vI (y13)), (12, vI (y14))]) hX dX3_draws_234 hnl (by decide) rfl ?_
              refine j_iinc (L' := [(8, vI (w32 (v8 + 1))), (6, vI (w32 (v6 + 0))), (0, vR 38), (2, vI (v2)), (3, vI (v3)), (4, vI (v4)), (5, vI (v5)), (7, vI (y10)), (9, vI (y11)), (10, vI (y12)), (11, vI (y13)), (12, vI (y14))]) hX 7 dX3_draws_236 hnl (by decide) rfl rfl ?_
              refine j_goto hX (tgt := 30) dX3_draws_239 (by decide) ?_
              refine j_sub [2, 3, 4, 5, 6, 1, 7, 0] rfl ?_
              exact ih _ _ _ h
            · rw [if_neg hc] at h
              refine j_goto hX (tgt := 228) dX3_draws_218 (by decide) ?_
              refine j_iconst hX dX3_draws_228 (rc rfl) ?_
              refine j_goto hX (tgt := 233) dX3_draws_229 (by decide) ?_
              refine j_iadd hX dX3_draws_233 ?_
              refine j_istore (L' := [(6, vI (w32 (v6 + 1))), (0, vR 38), (2, vI (v2)), (3, vI (v3)), (4, vI (v4)), (5, vI (v5)), (7, vI (y10)), (8, vI (v8)), (9, vI (y11)), (10, vI (y12)), (11, vI (y13)), (12, vI (y14))]) hX dX3_draws_234 hnl (by decide) rfl ?_
              refine j_iinc (L' := [(8, vI (w32 (v8 + 1))), (6, vI (w32 (v6 + 1))), (0, vR 38), (2, vI (v2)), (3, vI (v3)), (4, vI (v4)), (5, vI (v5)), (7, vI (y10)), (9, vI (y11)), (10, vI (y12)), (11, vI (y13)), (12, vI (y14))]) hX 7 dX3_draws_236 hnl (by decide) rfl rfl ?_
              refine j_goto hX (tgt := 30) dX3_draws_239 (by decide) ?_
              refine j_sub [2, 3, 4, 5, 6, 1, 7, 0] rfl ?_
              exact ih _ _ _ h
theorem s_X3_draws {g : G0} {B : Nat → Nat} {n : Nat} {E : Mem → Mem} {a1 : Int} {a2 : Int} {a3 : Int} {S : Mem} {r : Int} (hfl : g.2.2.2.2 = true) (hE : Lens E PC) (h : g_X3_draws a1 a2 a3 S = some r) : Cn g B n yX3_draws cX3_draws 16 (some .int) 3 [vR 38, vI (a1), vI (a2), vI (a3)] (E S) (QcI g B n r (E S)) := by
  refine Cn.of (by decide +kernel) (Nat.le_of_ble_eq_true rfl) (fun X hg hnl hX hR => ?_)
  subst hg
  have hX : Ctx X cX3_draws "TelegramFeelings$Hearing" 3 := hX
  unfold g_X3_draws at h
  show JW X B n 0 0 0 [(0, vR 38), (1, vI (a1)), (2, vI (a2)), (3, vI (a3))] [] (E S) (QM X (QcI (gX X) B n r (E S)))
  refine j_aload_n hX 0 dX3_draws_0 rfl rfl ?_
  refine j_getS (k := 0) hX hfl cbX3 ty38 (by decide) rfl wd297 rfl sb38_0 dX3_draws_1 ?_
  refine j_getI (k := 1) hX hE cbX5 ty1 pc1 (by decide) rfl wd142 rfl dX3_draws_4 ?_
  refine j_istore (L' := [(4, vI (gI S 1 1)), (0, vR 38), (1, vI (a1)), (2, vI (a2)), (3, vI (a3))]) hX dX3_draws_7 hnl (by decide) rfl ?_
  refine j_aload_n hX 1 dX3_draws_9 rfl rfl ?_
  refine j_getS (k := 0) hX hfl cbX3 ty38 (by decide) rfl wd297 rfl sb38_0 dX3_draws_10 ?_
  refine j_iconst hX dX3_draws_13 (rc rfl) ?_
  refine j_bipush hX dX3_draws_14 (rc rfl) (by decide) ?_
  obtain ⟨x1, h1, h⟩ := bs h
  refine j_callVI hX mwX5_value miX5_value wd858 cbX5 ty1 hyX5_value (by omega) (by decide) ⟨Nat.zero_le _, Nat.zero_le _⟩ dX3_draws_16 (s_X5_value hfl hE h1) npX5_value rfl (Nat.le_of_ble_eq_true rfl) ?_
  refine j_istore (L' := [(5, vI (x1)), (4, vI (gI S 1 1)), (0, vR 38), (1, vI (a1)), (2, vI (a2)), (3, vI (a3))]) hX dX3_draws_19 hnl (by decide) rfl ?_
  refine j_iconst hX dX3_draws_21 (rc rfl) ?_
  refine j_istore (L' := [(6, vI (0)), (5, vI (x1)), (4, vI (gI S 1 1)), (0, vR 38), (1, vI (a1)), (2, vI (a2)), (3, vI (a3))]) hX dX3_draws_22 hnl (by decide) rfl ?_
  refine j_iload_n hX 4 dX3_draws_24 rfl rfl ?_
  refine j_istore (L' := [(7, vI (a1)), (6, vI (0)), (5, vI (x1)), (4, vI (gI S 1 1)), (0, vR 38), (1, vI (a1)), (2, vI (a2)), (3, vI (a3))]) hX dX3_draws_25 hnl (by decide) rfl ?_
  refine j_iconst hX dX3_draws_27 (rc rfl) ?_
  refine j_istore (L' := [(8, vI (0)), (7, vI (a1)), (6, vI (0)), (5, vI (x1)), (4, vI (gI S 1 1)), (0, vR 38), (1, vI (a1)), (2, vI (a2)), (3, vI (a3))]) hX dX3_draws_28 hnl (by decide) rfl ?_
  refine j_sub [5, 7, 8, 4, 3, 2, 1, 0] rfl ?_
  refine sl_X3_draws_30 hX hR hfl hnl hE  _ _ _ _ h
theorem s_X4_feedOne {g : G0} {B : Nat → Nat} {n : Nat} {E : Mem → Mem} {a1 : Int} {S : Mem} {r : Int} {S' : Mem} (hfl : g.2.2.2.2 = true) (hE : Lens E PC) (h : g_X4_feedOne a1 S = some (r, S')) : Cn g B n yX4_feedOne cX4_feedOne 2 (some .int) 1 [vR 13, vI (a1)] (E S) (QcI g B n r (E S')) := by
  refine Cn.of (by decide +kernel) (Nat.le_of_ble_eq_true rfl) (fun X hg hnl hX hR => ?_)
  subst hg
  have hX : Ctx X cX4_feedOne "TelegramFeelings$Law" 1 := hX
  unfold g_X4_feedOne at h
  show JW X B n 0 0 0 [(0, vR 13), (1, vI (a1))] [] (E S) (QM X (QcI (gX X) B n r (E S')))
  refine j_aload_n hX 0 dX4_feedOne_0 rfl rfl ?_
  refine j_getI (k := 2) hX hE cbX4 ty13 pc13 (by decide) rfl wd180 rfl dX4_feedOne_1 ?_
  refine j_if_lt hX (tgt := 16) dX4_feedOne_4 (by decide) (fun hc => ?_) (fun hc => ?_)
  · rw [if_pos hc] at h
    refine j_bipush hX dX4_feedOne_16 (rc rfl) (by decide) ?_
    cases h
    exact j_iret hX hR dX4_feedOne_18
  · rw [if_neg hc] at h
    refine j_aload_n hX 0 dX4_feedOne_7 rfl rfl ?_
    refine j_getI (k := 2) hX hE cbX4 ty13 pc13 (by decide) rfl wd180 rfl dX4_feedOne_8 ?_
    refine j_bipush hX dX4_feedOne_11 (rc rfl) (by decide) ?_
    refine j_icmp_lt hX (tgt := 19) dX4_feedOne_13 (by decide) (fun hc => ?_) (fun hc => ?_)
    · rw [if_pos hc] at h
      refine j_aload_n hX 0 dX4_feedOne_19 rfl rfl ?_
      refine j_getS (k := 1) hX hfl cbX4 ty13 (by decide) rfl wd179 rfl sb13_1 dX4_feedOne_20 ?_
      refine j_aload_n hX 0 dX4_feedOne_23 rfl rfl ?_
      refine j_dup hX dX4_feedOne_24 rfl ?_
      refine j_getI (k := 2) hX hE cbX4 ty13 pc13 (by decide) rfl wd180 rfl dX4_feedOne_25 ?_
      refine j_dup_x1 hX dX4_feedOne_28 rfl rfl ?_
      refine j_iconst hX dX4_feedOne_29 (rc rfl) ?_
      refine j_iadd hX dX4_feedOne_30 ?_
      refine j_putI (k := 2) hX hE cbX4 ty13 pc13 (by decide) rfl wd180 rfl (Or.inl rfl) rfl dX4_feedOne_31 ?_
      obtain ⟨S1, hx, h⟩ := ap_s h
      rw [← hx]
      clear hx
      refine j_iload_n hX 1 dX4_feedOne_34 rfl rfl ?_
      obtain ⟨S2, hv, h⟩ := bs h
      refine j_iast hX hE ty14 pc14 hv dX4_feedOne_35 ?_
      refine j_aload_n hX 0 dX4_feedOne_36 rfl rfl ?_
      refine j_getI (k := 2) hX hE cbX4 ty13 pc13 (by decide) rfl wd180 rfl dX4_feedOne_37 ?_
      cases h
      exact j_iret hX hR dX4_feedOne_40
    · rw [if_neg hc] at h
      refine j_bipush hX dX4_feedOne_16 (rc rfl) (by decide) ?_
      cases h
      exact j_iret hX hR dX4_feedOne_18
theorem s_X4_emit {g : G0} {B : Nat → Nat} {n : Nat} {E : Mem → Mem} {a1 : Int} {S : Mem} {S' : Mem} (hfl : g.2.2.2.2 = true) (hE : Lens E PC) (h : g_X4_emit a1 S = some S') : Cn g B n yX4_emit cX4_emit 2 none 1 [vR 13, vI (a1)] (E S) (QcV g B n (E S')) := by
  refine Cn.of (by decide +kernel) (Nat.le_of_ble_eq_true rfl) (fun X hg hnl hX hR => ?_)
  subst hg
  have hX : Ctx X cX4_emit "TelegramFeelings$Law" 1 := hX
  unfold g_X4_emit at h
  show JW X B n 0 0 0 [(0, vR 13), (1, vI (a1))] [] (E S) (QM X (QcV (gX X) B n (E S')))
  refine j_aload_n hX 0 dX4_emit_0 rfl rfl ?_
  refine j_getI (k := 6) hX hE cbX4 ty13 pc13 (by decide) rfl wd185 rfl dX4_emit_1 ?_
  refine j_if_lt hX (tgt := 36) dX4_emit_4 (by decide) (fun hc => ?_) (fun hc => ?_)
  · rw [if_pos hc] at h
    cases h
    exact j_vret hX hR dX4_emit_36
  · rw [if_neg hc] at h
    refine j_aload_n hX 0 dX4_emit_7 rfl rfl ?_
    refine j_getI (k := 6) hX hE cbX4 ty13 pc13 (by decide) rfl wd185 rfl dX4_emit_8 ?_
    refine j_aload_n hX 0 dX4_emit_11 rfl rfl ?_
    obtain ⟨q1, hg, h⟩ := bs h
    refine j_getR (k := 5) hX hE cbX4 ty13 pc13 (by decide) rfl wd184 rfl hg dX4_emit_12 ?_
    obtain ⟨x2, hv, h⟩ := bs h
    refine j_alenD hX (Or.inl rfl) hv dX4_emit_15 ?_
    refine j_icmp_ge hX (tgt := 36) dX4_emit_16 (by decide) (fun hc => ?_) (fun hc => ?_)
    · rw [if_pos hc] at h
      cases h
      exact j_vret hX hR dX4_emit_36
    · rw [if_neg hc] at h
      refine j_aload_n hX 0 dX4_emit_19 rfl rfl ?_
      obtain ⟨q3, hg, h⟩ := bs h
      refine j_getR (k := 5) hX hE cbX4 ty13 pc13 (by decide) rfl wd184 rfl hg dX4_emit_20 ?_
      refine j_aload_n hX 0 dX4_emit_23 rfl rfl ?_
      refine j_dup hX dX4_emit_24 rfl ?_
      refine j_getI (k := 6) hX hE cbX4 ty13 pc13 (by decide) rfl wd185 rfl dX4_emit_25 ?_
      refine j_dup_x1 hX dX4_emit_28 rfl rfl ?_
      refine j_iconst hX dX4_emit_29 (rc rfl) ?_
      refine j_iadd hX dX4_emit_30 ?_
      refine j_putI (k := 6) hX hE cbX4 ty13 pc13 (by decide) rfl wd185 rfl (Or.inl rfl) rfl dX4_emit_31 ?_
      obtain ⟨S4, hx, h⟩ := ap_s h
      rw [← hx]
      clear hx
      refine j_iload_n hX 1 dX4_emit_34 rfl rfl ?_
      obtain ⟨S5, hv, h⟩ := bs h
      refine j_iastD hX hE (fun _ h => h) hv dX4_emit_35 ?_
      cases h
      exact j_vret hX hR dX4_emit_36
theorem s_X4_next {g : G0} {B : Nat → Nat} {n : Nat} {E : Mem → Mem}  {S : Mem} {r : Int} (hfl : g.2.2.2.2 = true) (hE : Lens E PC) (h : g_X4_next S = some r) : Cn g B n yX4_next cX4_next 1 (some .int) 1 [vR 13] (E S) (QcI g B n r (E S)) := by
  refine Cn.of (by decide +kernel) (Nat.le_of_ble_eq_true rfl) (fun X hg hnl hX hR => ?_)
  subst hg
  have hX : Ctx X cX4_next "TelegramFeelings$Law" 1 := hX
  unfold g_X4_next at h
  show JW X B n 0 0 0 [(0, vR 13)] [] (E S) (QM X (QcI (gX X) B n r (E S)))
  refine j_aload_n hX 0 dX4_next_0 rfl rfl ?_
  refine j_getI (k := 7) hX hE cbX4 ty13 pc13 (by decide) rfl wd186 rfl dX4_next_1 ?_
  refine j_if_lt hX (tgt := 39) dX4_next_4 (by decide) (fun hc => ?_) (fun hc => ?_)
  · rw [if_pos hc] at h
    refine j_iconst hX dX4_next_39 (rc rfl) ?_
    cases h
    exact j_iret hX hR dX4_next_40
  · rw [if_neg hc] at h
    refine j_aload_n hX 0 dX4_next_7 rfl rfl ?_
    refine j_getI (k := 7) hX hE cbX4 ty13 pc13 (by decide) rfl wd186 rfl dX4_next_8 ?_
    refine j_aload_n hX 0 dX4_next_11 rfl rfl ?_
    refine j_getI (k := 2) hX hE cbX4 ty13 pc13 (by decide) rfl wd180 rfl dX4_next_12 ?_
    refine j_icmp_ge hX (tgt := 39) dX4_next_15 (by decide) (fun hc => ?_) (fun hc => ?_)
    · rw [if_pos hc] at h
      refine j_iconst hX dX4_next_39 (rc rfl) ?_
      cases h
      exact j_iret hX hR dX4_next_40
    · rw [if_neg hc] at h
      refine j_aload_n hX 0 dX4_next_18 rfl rfl ?_
      refine j_getI (k := 7) hX hE cbX4 ty13 pc13 (by decide) rfl wd186 rfl dX4_next_19 ?_
      refine j_bipush hX dX4_next_22 (rc rfl) (by decide) ?_
      refine j_icmp_ge hX (tgt := 39) dX4_next_24 (by decide) (fun hc => ?_) (fun hc => ?_)
      · rw [if_pos hc] at h
        refine j_iconst hX dX4_next_39 (rc rfl) ?_
        cases h
        exact j_iret hX hR dX4_next_40
      · rw [if_neg hc] at h
        refine j_aload_n hX 0 dX4_next_27 rfl rfl ?_
        refine j_getS (k := 1) hX hfl cbX4 ty13 (by decide) rfl wd179 rfl sb13_1 dX4_next_28 ?_
        refine j_aload_n hX 0 dX4_next_31 rfl rfl ?_
        refine j_getI (k := 7) hX hE cbX4 ty13 pc13 (by decide) rfl wd186 rfl dX4_next_32 ?_
        obtain ⟨x1, hv, h⟩ := bs h
        refine j_iald hX hE ty14 pc14 hv dX4_next_35 ?_
        refine j_goto hX (tgt := 40) dX4_next_36 (by decide) ?_
        cases h
        exact j_iret hX hR dX4_next_40
theorem s_X4_takes {g : G0} {B : Nat → Nat} {n : Nat} {E : Mem → Mem} {a1 : Int} {S : Mem} {r : Int} {S' : Mem} (hfl : g.2.2.2.2 = true) (hE : Lens E PC) (h : g_X4_takes a1 S = some (r, S')) : Cn g B n yX4_takes cX4_takes 2 (some .boolean) 2 [vR 13, vI (a1)] (E S) (QcI g B n r (E S')) := by
  refine Cn.of (by decide +kernel) (Nat.le_of_ble_eq_true rfl) (fun X hg hnl hX hR => ?_)
  subst hg
  have hX : Ctx X cX4_takes "TelegramFeelings$Law" 2 := hX
  unfold g_X4_takes at h
  show JW X B n 0 0 0 [(0, vR 13), (1, vI (a1))] [] (E S) (QM X (QcI (gX X) B n r (E S')))
  refine j_aload_n hX 0 dX4_takes_0 rfl rfl ?_
  obtain ⟨x1, h1, h⟩ := bs h
  refine j_callVI hX mwX4_next miX4_next wd565 cbX4 ty13 hyX4_next (by omega) (by decide) ⟨Nat.zero_le _, Nat.zero_le _⟩ dX4_takes_1 (s_X4_next hfl hE h1) npX4_next rfl (Nat.le_of_ble_eq_true rfl) ?_
  refine j_iload_n hX 1 dX4_takes_4 rfl rfl ?_
  refine j_icmp_eq hX (tgt := 10) dX4_takes_5 (by decide) (fun hc => ?_) (fun hc => ?_)
  · rw [if_pos hc] at h
    refine j_aload_n hX 0 dX4_takes_10 rfl rfl ?_
    refine j_dup hX dX4_takes_11 rfl ?_
    refine j_getI (k := 7) hX hE cbX4 ty13 pc13 (by decide) rfl wd186 rfl dX4_takes_12 ?_
    refine j_iconst hX dX4_takes_15 (rc rfl) ?_
    refine j_iadd hX dX4_takes_16 ?_
    refine j_putI (k := 7) hX hE cbX4 ty13 pc13 (by decide) rfl wd186 rfl (Or.inl rfl) rfl dX4_takes_17 ?_
    obtain ⟨S2, hx, h⟩ := ap_s h
    rw [← hx]
    clear hx
    refine j_iconst hX dX4_takes_20 (rc rfl) ?_
    cases h
    exact j_zret hX hR (Or.inr rfl) dX4_takes_21
  · rw [if_neg hc] at h
    refine j_iconst hX dX4_takes_8 (rc rfl) ?_
    cases h
    exact j_zret hX hR (Or.inl rfl) dX4_takes_9
theorem s_X4_isDigit {g : G0} {B : Nat → Nat} {n : Nat} {M : Mem} {a1 : Int} {r : Int} (hfl : g.2.2.2.2 = true) (h : g_X4_isDigit a1 = r) : Cn g B n yX4_isDigit cX4_isDigit 1 (some .boolean) 1 [vI (a1)] M (QcI g B n r M) := by
  refine Cn.of (by decide +kernel) (Nat.le_of_ble_eq_true rfl) (fun X hg hnl hX hR => ?_)
  subst hg
  have hX : Ctx X cX4_isDigit "TelegramFeelings$Law" 1 := hX
  unfold g_X4_isDigit at h
  show JW X B n 0 0 0 [(0, vI (a1))] [] (M) (QM X (QcI (gX X) B n r M))
  refine j_iload_n hX 0 dX4_isDigit_0 rfl rfl ?_
  refine j_bipush hX dX4_isDigit_1 (rc rfl) (by decide) ?_
  refine j_icmp_lt hX (tgt := 16) dX4_isDigit_3 (by decide) (fun hc => ?_) (fun hc => ?_)
  · rw [if_pos hc] at h
    refine j_iconst hX dX4_isDigit_16 (rc rfl) ?_
    subst h
    exact j_zret hX hR (Or.inl rfl) dX4_isDigit_17
  · rw [if_neg hc] at h
    refine j_iload_n hX 0 dX4_isDigit_6 rfl rfl ?_
    refine j_bipush hX dX4_isDigit_7 (rc rfl) (by decide) ?_
    refine j_icmp_gt hX (tgt := 16) dX4_isDigit_9 (by decide) (fun hc => ?_) (fun hc => ?_)
    · rw [if_pos hc] at h
      refine j_iconst hX dX4_isDigit_16 (rc rfl) ?_
      subst h
      exact j_zret hX hR (Or.inl rfl) dX4_isDigit_17
    · rw [if_neg hc] at h
      refine j_iconst hX dX4_isDigit_12 (rc rfl) ?_
      refine j_goto hX (tgt := 17) dX4_isDigit_13 (by decide) ?_
      subst h
      exact j_zret hX hR (Or.inr rfl) dX4_isDigit_17
theorem sl_X4_readNumber_4 {X : K0} {B : Nat → Nat} {n : Nat} {E : Mem → Mem} {S' : Mem} (hX : Ctx X cX4_readNumber "TelegramFeelings$Law" 2) (hR : CR X none) (hfl : (gX X).2.2.2.2 = true) (hnl : X.2.2.2.2.2.2.2.2.2.2.2.2.2.2 = 3) (hE : Lens E PC) {k48 : Int → Mem → Option Mem}  (K48 : ∀ (v1 : Int) (S : Mem), k48 v1 S = some S' → JW X B n 0 0 48 [(0, vR 13), (1, vI (v1))] [] (E S) (QM X (QcV (gX X) B n (E S')))) : ∀ (fu : Nat) (v1 : Int) (v2 : Int) (S : Mem), g_X4_readNumber_L4 k48 fu v1 v2 S = some S' → JW X B n 0 0 4 [(0, vR 13), (1, vI (v1)), (2, vI (v2))] [] (E S) (QM X (QcV (gX X) B n (E S'))) := by
  intro fu
  induction fu with
  | zero =>
    intro v1 v2 S h
    rw [g_X4_readNumber_L4] at h
    cases h
  | succ fu ih =>
    intro v1 v2 S h
    rw [g_X4_readNumber_L4] at h
    refine j_iload_n hX 2 dX4_readNumber_4 rfl rfl ?_
    refine j_iconst hX dX4_readNumber_5 (rc rfl) ?_
    refine j_icmp_ge hX (tgt := 48) dX4_readNumber_6 (by decide) (fun hc => ?_) (fun hc => ?_)
    · rw [if_pos hc] at h
      refine j_sub [0, 1] rfl ?_
      exact K48 _ _ h
    · rw [if_neg hc] at h
      refine j_aload_n hX 0 dX4_readNumber_9 rfl rfl ?_
      obtain ⟨x1, h1, h⟩ := bs h
      refine j_callVI hX mwX4_next miX4_next wd565 cbX4 ty13 hyX4_next (by omega) (by decide) ⟨Nat.zero_le _, Nat.zero_le _⟩ dX4_readNumber_10 (s_X4_next hfl hE h1) npX4_next rfl (Nat.le_of_ble_eq_true rfl) ?_
      refine j_callSI hX mwX4_isDigit msX4_isDigit wd569 hyX4_isDigit (by omega) (by decide) ⟨Nat.zero_le _, Nat.zero_le _⟩ dX4_readNumber_13 (s_X4_isDigit hfl rfl) npX4_isDigit rfl (Nat.le_of_ble_eq_true rfl) ?_
      refine j_if_eq hX (tgt := 48) dX4_readNumber_16 (by decide) (fun hc => ?_) (fun hc => ?_)
      · rw [if_pos hc] at h
        refine j_sub [0, 1] rfl ?_
        exact K48 _ _ h
      · rw [if_neg hc] at h
        refine j_iload_n hX 1 dX4_readNumber_19 rfl rfl ?_
        refine j_bipush hX dX4_readNumber_20 (rc rfl) (by decide) ?_
        refine j_imul hX dX4_readNumber_22 ?_
        refine j_aload_n hX 0 dX4_readNumber_23 rfl rfl ?_
        obtain ⟨x2, h1, h⟩ := bs h
        refine j_callVI hX mwX4_next miX4_next wd565 cbX4 ty13 hyX4_next (by omega) (by decide) ⟨Nat.zero_le _, Nat.zero_le _⟩ dX4_readNumber_24 (s_X4_next hfl hE h1) npX4_next rfl (Nat.le_of_ble_eq_true rfl) ?_
        refine j_iadd hX dX4_readNumber_27 ?_
        refine j_bipush hX dX4_readNumber_28 (rc rfl) (by decide) ?_
        refine j_isub hX dX4_readNumber_30 ?_
        obtain ⟨x3, hx, h⟩ := ap_s h
        rw [← hx]
        clear hx
        refine j_istore_n (L' := [(1, vI (x3)), (0, vR 13), (2, vI (v2))]) hX dX4_readNumber_31 rfl hnl (by decide) rfl ?_
        refine j_aload_n hX 1 dX4_readNumber_32 rfl rfl ?_
        refine j_dup hX dX4_readNumber_33 rfl ?_
        refine j_getI (k := 7) hX hE cbX4 ty13 pc13 (by decide) rfl wd186 rfl dX4_readNumber_34 ?_
        refine j_iconst hX dX4_readNumber_37 (rc rfl) ?_
        refine j_iadd hX dX4_readNumber_38 ?_
        refine j_putI (k := 7) hX hE cbX4 ty13 pc13 (by decide) rfl wd186 rfl (Or.inl rfl) rfl dX4_readNumber_39 ?_
        obtain ⟨S4, hx, h⟩ := ap_s h
        rw [← hx]
        clear hx
        refine j_iinc (L' := [(2, vI (w32 (v2 + 1))), (1, vI (x3)), (0, vR 13)]) hX 2 dX4_readNumber_42 hnl (by decide) rfl rfl ?_
        refine j_goto hX (tgt := 4) dX4_readNumber_45 (by decide) ?_
        refine j_sub [2, 1, 0] rfl ?_
        exact ih _ _ _ h
theorem s_X4_readNumber {g : G0} {B : Nat → Nat} {n : Nat} {E : Mem → Mem}  {S : Mem} {S' : Mem} (hfl : g.2.2.2.2 = true) (hE : Lens E PC) (h : g_X4_readNumber S = some S') : Cn g B n yX4_readNumber cX4_readNumber 3 none 2 [vR 13] (E S) (QcV g B n (E S')) := by
  refine Cn.of (by decide +kernel) (Nat.le_of_ble_eq_true rfl) (fun X hg hnl hX hR => ?_)
  subst hg
  have hX : Ctx X cX4_readNumber "TelegramFeelings$Law" 2 := hX
  unfold g_X4_readNumber at h
  show JW X B n 0 0 0 [(0, vR 13)] [] (E S) (QM X (QcV (gX X) B n (E S')))
  refine j_iconst hX dX4_readNumber_0 (rc rfl) ?_
  refine j_istore_n (L' := [(1, vI (0)), (0, vR 13)]) hX dX4_readNumber_1 rfl hnl (by decide) rfl ?_
  refine j_iconst hX dX4_readNumber_2 (rc rfl) ?_
  refine j_istore_n (L' := [(2, vI (0)), (1, vI (0)), (0, vR 13)]) hX dX4_readNumber_3 rfl hnl (by decide) rfl ?_
  refine j_sub [2, 1, 0] rfl ?_
  refine sl_X4_readNumber_4 hX hR hfl hnl hE (fun y6 S5 h => ?_) _ _ _ _ h
  refine j_aload_n hX 0 dX4_readNumber_48 rfl rfl ?_
  refine j_iload_n hX 1 dX4_readNumber_49 rfl rfl ?_
  obtain ⟨S7, h1, h⟩ := bs h
  refine j_callVV hX mwX4_emit miX4_emit wd576 cbX4 ty13 hyX4_emit (by omega) (by decide) ⟨Nat.zero_le _, Nat.zero_le _⟩ dX4_readNumber_50 (s_X4_emit hfl hE h1) npX4_emit rfl (Nat.le_of_ble_eq_true rfl) ?_
  cases h
  exact j_vret hX hR dX4_readNumber_53
theorem sj_X4_readProduct_45 {X : K0} {B : Nat → Nat} {n : Nat} {E : Mem → Mem} {r : Int} {S' : Mem} {rO : Int → Mem → Option (Int × Mem)} {dd : Nat} (hdd : 6 ≤ dd) (hX : Ctx X cX4_readProduct "TelegramFeelings$Law" (dd + 1)) (hR : CR X (some .boolean)) (hfl : (gX X).2.2.2.2 = true) (hnl : X.2.2.2.2.2.2.2.2.2.2.2.2.2.2 = 5) (hE : Lens E PC) (hO : ∀ (a1 : Int) (S : Mem) (r : Int) (S1 : Mem), rO a1 S = some (r, S1) → Cn (gX X) B n yX4_readOperand cX4_readOperand 5 (some .boolean) dd [vR 13, vI (a1)] (E S) (QcI (gX X) B n r (E S1))) {c : Int → Int → Mem → Option (Int × Mem)}   {v1 : Int} {v3 : Int} {S : Mem} (Hc : ∀ (v2 : Int) (v3 : Int) (S : Mem), c v2 v3 S = some (r, S') → JW X B n 0 0 8 [(0, vR 13), (1, vI (v1)), (2, vI (v2)), (3, vI (v3))] [] (E S) (QM X (QcI (gX X) B n r (E S')))) (h : g_X4_readProduct_J45 rO c v1 v3 S = some (r, S')) : JW X B n 0 0 45 [(0, vR 13), (1, vI (v1)), (3, vI (v3))] [] (E S) (QM X (QcI (gX X) B n r (E S'))) := by
  unfold g_X4_readProduct_J45 at h
  refine j_aload_n hX 0 dX4_readProduct_45 rfl rfl ?_
  obtain ⟨x4, h1, h⟩ := bs h
  refine j_callVI hX mwX4_next miX4_next wd565 cbX4 ty13 hyX4_next (by omega) (by decide) ⟨Nat.zero_le _, Nat.zero_le _⟩ dX4_readProduct_46 (s_X4_next hfl hE h1) npX4_next rfl (Nat.le_of_ble_eq_true rfl) ?_
  refine j_istore (L' := [(4, vI (x4)), (0, vR 13), (1, vI (v1)), (3, vI (v3))]) hX dX4_readProduct_49 hnl (by decide) rfl ?_
  refine j_aload_n hX 1 dX4_readProduct_51 rfl rfl ?_
  refine j_dup hX dX4_readProduct_52 rfl ?_
  refine j_getI (k := 7) hX hE cbX4 ty13 pc13 (by decide) rfl wd186 rfl dX4_readProduct_53 ?_
  refine j_iconst hX dX4_readProduct_56 (rc rfl) ?_
  refine j_iadd hX dX4_readProduct_57 ?_
  refine j_putI (k := 7) hX hE cbX4 ty13 pc13 (by decide) rfl wd186 rfl (Or.inl rfl) rfl dX4_readProduct_58 ?_
  obtain ⟨S5, hx, h⟩ := ap_s h
  rw [← hx]
  clear hx
  refine j_aload_n hX 1 dX4_readProduct_61 rfl rfl ?_
  refine j_iload_n hX 2 dX4_readProduct_62 rfl rfl ?_
  obtain ⟨x7, S6, h1, h⟩ := bd2_s h
  refine j_callVI hX mwX4_readOperand miX4_readOperand wd561 cbX4 ty13 hyX4_readOperand (by omega) (by decide) ⟨Nat.zero_le _, Nat.zero_le _⟩ dX4_readProduct_63 (hO _ _ _ _ h1) npX4_readOperand rfl (Nat.le_of_ble_eq_true rfl) ?_
  refine j_istore_n (L' := [(2, vI (x7)), (4, vI (x4)), (0, vR 13), (1, vI (v1)), (3, vI (v3))]) hX dX4_readProduct_66 rfl hnl (by decide) rfl ?_
  refine j_aload_n hX 2 dX4_readProduct_67 rfl rfl ?_
  refine j_iload hX 1 dX4_readProduct_68 rfl ?_
  refine j_ineg hX dX4_readProduct_70 ?_
  obtain ⟨S8, h1, h⟩ := bs h
  refine j_callVV hX mwX4_emit miX4_emit wd576 cbX4 ty13 hyX4_emit (by omega) (by decide) ⟨Nat.zero_le _, Nat.zero_le _⟩ dX4_readProduct_71 (s_X4_emit hfl hE h1) npX4_emit rfl (Nat.le_of_ble_eq_true rfl) ?_
  refine j_iinc (L' := [(3, vI (w32 (v3 + 1))), (2, vI (x7)), (4, vI (x4)), (0, vR 13), (1, vI (v1))]) hX 4 dX4_readProduct_74 hnl (by decide) rfl rfl ?_
  refine j_goto hX (tgt := 8) dX4_readProduct_77 (by decide) ?_
  refine j_sub [3, 4, 1, 0] rfl ?_
  exact Hc _ _ _ h
theorem sl_X4_readProduct_8 {X : K0} {B : Nat → Nat} {n : Nat} {E : Mem → Mem} {r : Int} {S' : Mem} {rO : Int → Mem → Option (Int × Mem)} {dd : Nat} (hdd : 6 ≤ dd) (hX : Ctx X cX4_readProduct "TelegramFeelings$Law" (dd + 1)) (hR : CR X (some .boolean)) (hfl : (gX X).2.2.2.2 = true) (hnl : X.2.2.2.2.2.2.2.2.2.2.2.2.2.2 = 5) (hE : Lens E PC) (hO : ∀ (a1 : Int) (S : Mem) (r : Int) (S1 : Mem), rO a1 S = some (r, S1) → Cn (gX X) B n yX4_readOperand cX4_readOperand 5 (some .boolean) dd [vR 13, vI (a1)] (E S) (QcI (gX X) B n r (E S1)))  {v1 : Int}  : ∀ (fu : Nat) (v2 : Int) (v3 : Int) (S : Mem), g_X4_readProduct_L8 rO v1 fu v2 v3 S = some (r, S') → JW X B n 0 0 8 [(0, vR 13), (1, vI (v1)), (2, vI (v2)), (3, vI (v3))] [] (E S) (QM X (QcI (gX X) B n r (E S'))) := by
  intro fu
  induction fu with
  | zero =>
    intro v2 v3 S h
    rw [g_X4_readProduct_L8] at h
    cases h
  | succ fu ih =>
    intro v2 v3 S h
    rw [g_X4_readProduct_L8] at h
    refine j_iload_n hX 3 dX4_readProduct_8 rfl rfl ?_
    refine j_bipush hX dX4_readProduct_9 (rc rfl) (by decide) ?_
    refine j_icmp_ge hX (tgt := 80) dX4_readProduct_11 (by decide) (fun hc => ?_) (fun hc => ?_)
    · rw [if_pos hc] at h
      refine j_iload_n hX 2 dX4_readProduct_80 rfl rfl ?_
      obtain ⟨hz, h⟩ := chk_s h
      cases h
      exact j_zret hX hR hz dX4_readProduct_81
    · rw [if_neg hc] at h
      refine j_iload_n hX 2 dX4_readProduct_14 rfl rfl ?_
      refine j_if_eq hX (tgt := 80) dX4_readProduct_15 (by decide) (fun hc => ?_) (fun hc => ?_)
      · rw [if_pos hc] at h
        refine j_iload_n hX 2 dX4_readProduct_80 rfl rfl ?_
        obtain ⟨hz, h⟩ := chk_s h
        cases h
        exact j_zret hX hR hz dX4_readProduct_81
      · rw [if_neg hc] at h
        refine j_aload_n hX 0 dX4_readProduct_18 rfl rfl ?_
        obtain ⟨x3, h1, h⟩ := bs h
        refine j_callVI hX mwX4_next miX4_next wd565 cbX4 ty13 hyX4_next (by omega) (by decide) ⟨Nat.zero_le _, Nat.zero_le _⟩ dX4_readProduct_19 (s_X4_next hfl hE h1) npX4_next rfl (Nat.le_of_ble_eq_true rfl) ?_
        refine j_bipush hX dX4_readProduct_22 (rc rfl) (by decide) ?_
        refine j_icmp_eq hX (tgt := 45) dX4_readProduct_24 (by decide) (fun hc => ?_) (fun hc => ?_)
        · rw [if_pos hc] at h
          refine j_sub [0, 1, 3] rfl ?_
          exact sj_X4_readProduct_45 hdd hX hR hfl hnl hE hO ih  h
        · rw [if_neg hc] at h
          refine j_aload_n hX 0 dX4_readProduct_27 rfl rfl ?_
          obtain ⟨x9, h1, h⟩ := bs h
          refine j_callVI hX mwX4_next miX4_next wd565 cbX4 ty13 hyX4_next (by omega) (by decide) ⟨Nat.zero_le _, Nat.zero_le _⟩ dX4_readProduct_28 (s_X4_next hfl hE h1) npX4_next rfl (Nat.le_of_ble_eq_true rfl) ?_
          refine j_bipush hX dX4_readProduct_31 (rc rfl) (by decide) ?_
          refine j_icmp_eq hX (tgt := 45) dX4_readProduct_33 (by decide) (fun hc => ?_) (fun hc => ?_)
          · rw [if_pos hc] at h
            refine j_sub [0, 1, 3] rfl ?_
            exact sj_X4_readProduct_45 hdd hX hR hfl hnl hE hO ih  h
          · rw [if_neg hc] at h
            refine j_aload_n hX 0 dX4_readProduct_36 rfl rfl ?_
            obtain ⟨x10, h1, h⟩ := bs h
            refine j_callVI hX mwX4_next miX4_next wd565 cbX4 ty13 hyX4_next (by omega) (by decide) ⟨Nat.zero_le _, Nat.zero_le _⟩ dX4_readProduct_37 (s_X4_next hfl hE h1) npX4_next rfl (Nat.le_of_ble_eq_true rfl) ?_
            refine j_bipush hX dX4_readProduct_40 (rc rfl) (by decide) ?_
            refine j_icmp_ne hX (tgt := 80) dX4_readProduct_42 (by decide) (fun hc => ?_) (fun hc => ?_)
            · rw [if_neg hc] at h
              refine j_iload_n hX 2 dX4_readProduct_80 rfl rfl ?_
              obtain ⟨hz, h⟩ := chk_s h
              cases h
              exact j_zret hX hR hz dX4_readProduct_81
            · rw [if_pos hc] at h
              refine j_sub [0, 1, 3] rfl ?_
              exact sj_X4_readProduct_45 hdd hX hR hfl hnl hE hO ih  h
theorem s_X4_readProduct {g : G0} {B : Nat → Nat} {n : Nat} {E : Mem → Mem} {a1 : Int} {S : Mem} {r : Int} {S' : Mem} (hfl : g.2.2.2.2 = true) {rO : Int → Mem → Option (Int × Mem)} {dd : Nat} (hdd : 6 ≤ dd) (hE : Lens E PC) (hO : ∀ (a1 : Int) (S : Mem) (r : Int) (S1 : Mem), rO a1 S = some (r, S1) → Cn g B n yX4_readOperand cX4_readOperand 5 (some .boolean) dd [vR 13, vI (a1)] (E S) (QcI g B n r (E S1))) (h : g_X4_readProduct rO a1 S = some (r, S')) : Cn g B n yX4_readProduct cX4_readProduct 5 (some .boolean) (dd + 1) [vR 13, vI (a1)] (E S) (QcI g B n r (E S')) := by
  refine Cn.of (by decide +kernel) (Nat.le_of_ble_eq_true rfl) (fun X hg hnl hX hR => ?_)
  subst hg
  have hX : Ctx X cX4_readProduct "TelegramFeelings$Law" (dd + 1) := hX
  unfold g_X4_readProduct at h
  show JW X B n 0 0 0 [(0, vR 13), (1, vI (a1))] [] (E S) (QM X (QcI (gX X) B n r (E S')))
  refine j_aload_n hX 0 dX4_readProduct_0 rfl rfl ?_
  refine j_iload_n hX 1 dX4_readProduct_1 rfl rfl ?_
  obtain ⟨x2, S1, h1, h⟩ := bd2_s h
  refine j_callVI hX mwX4_readOperand miX4_readOperand wd561 cbX4 ty13 hyX4_readOperand (by omega) (by decide) ⟨Nat.zero_le _, Nat.zero_le _⟩ dX4_readProduct_2 (hO _ _ _ _ h1) npX4_readOperand rfl (Nat.le_of_ble_eq_true rfl) ?_
  refine j_istore_n (L' := [(2, vI (x2)), (0, vR 13), (1, vI (a1))]) hX dX4_readProduct_5 rfl hnl (by decide) rfl ?_
  refine j_iconst hX dX4_readProduct_6 (rc rfl) ?_
  refine j_istore_n (L' := [(3, vI (0)), (2, vI (x2)), (0, vR 13), (1, vI (a1))]) hX dX4_readProduct_7 rfl hnl (by decide) rfl ?_
  refine j_sub [2, 3, 1, 0] rfl ?_
  refine sl_X4_readProduct_8 hdd hX hR hfl hnl hE hO  _ _ _ _ h
theorem sj_X4_readSum_36 {X : K0} {B : Nat → Nat} {n : Nat} {E : Mem → Mem} {r : Int} {S' : Mem} {rO : Int → Mem → Option (Int × Mem)} {dd : Nat} (hdd : 6 ≤ dd) (hX : Ctx X cX4_readSum "TelegramFeelings$Law" (dd + 2)) (hR : CR X (some .boolean)) (hfl : (gX X).2.2.2.2 = true) (hnl : X.2.2.2.2.2.2.2.2.2.2.2.2.2.2 = 5) (hE : Lens E PC) (hO : ∀ (a1 : Int) (S : Mem) (r : Int) (S1 : Mem), rO a1 S = some (r, S1) → Cn (gX X) B n yX4_readOperand cX4_readOperand 5 (some .boolean) dd [vR 13, vI (a1)] (E S) (QcI (gX X) B n r (E S1))) {c : Int → Int → Mem → Option (Int × Mem)}   {v1 : Int} {v3 : Int} {S : Mem} (Hc : ∀ (v2 : Int) (v3 : Int) (S : Mem), c v2 v3 S = some (r, S') → JW X B n 0 0 8 [(0, vR 13), (1, vI (v1)), (2, vI (v2)), (3, vI (v3))] [] (E S) (QM X (QcI (gX X) B n r (E S')))) (h : g_X4_readSum_J36 rO c v1 v3 S = some (r, S')) : JW X B n 0 0 36 [(0, vR 13), (1, vI (v1)), (3, vI (v3))] [] (E S) (QM X (QcI (gX X) B n r (E S'))) := by
  unfold g_X4_readSum_J36 at h
  refine j_aload_n hX 0 dX4_readSum_36 rfl rfl ?_
  obtain ⟨x4, h1, h⟩ := bs h
  refine j_callVI hX mwX4_next miX4_next wd565 cbX4 ty13 hyX4_next (by omega) (by decide) ⟨Nat.zero_le _, Nat.zero_le _⟩ dX4_readSum_37 (s_X4_next hfl hE h1) npX4_next rfl (Nat.le_of_ble_eq_true rfl) ?_
  refine j_istore (L' := [(4, vI (x4)), (0, vR 13), (1, vI (v1)), (3, vI (v3))]) hX dX4_readSum_40 hnl (by decide) rfl ?_
  refine j_aload_n hX 1 dX4_readSum_42 rfl rfl ?_
  refine j_dup hX dX4_readSum_43 rfl ?_
  refine j_getI (k := 7) hX hE cbX4 ty13 pc13 (by decide) rfl wd186 rfl dX4_readSum_44 ?_
  refine j_iconst hX dX4_readSum_47 (rc rfl) ?_
  refine j_iadd hX dX4_readSum_48 ?_
  refine j_putI (k := 7) hX hE cbX4 ty13 pc13 (by decide) rfl wd186 rfl (Or.inl rfl) rfl dX4_readSum_49 ?_
  obtain ⟨S5, hx, h⟩ := ap_s h
  rw [← hx]
  clear hx
  refine j_aload_n hX 1 dX4_readSum_52 rfl rfl ?_
  refine j_iload_n hX 2 dX4_readSum_53 rfl rfl ?_
  obtain ⟨x7, S6, h1, h⟩ := bd2_s h
  refine j_callVI hX mwX4_readProduct miX4_readProduct wd557 cbX4 ty13 hyX4_readProduct (by omega) (by decide) ⟨Nat.zero_le _, Nat.zero_le _⟩ dX4_readSum_54 (s_X4_readProduct hfl hdd hE hO h1) npX4_readProduct rfl (Nat.le_of_ble_eq_true rfl) ?_
  refine j_istore_n (L' := [(2, vI (x7)), (4, vI (x4)), (0, vR 13), (1, vI (v1)), (3, vI (v3))]) hX dX4_readSum_57 rfl hnl (by decide) rfl ?_
  refine j_aload_n hX 2 dX4_readSum_58 rfl rfl ?_
  refine j_iload hX 1 dX4_readSum_59 rfl ?_
  refine j_ineg hX dX4_readSum_61 ?_
  obtain ⟨S8, h1, h⟩ := bs h
  refine j_callVV hX mwX4_emit miX4_emit wd576 cbX4 ty13 hyX4_emit (by omega) (by decide) ⟨Nat.zero_le _, Nat.zero_le _⟩ dX4_readSum_62 (s_X4_emit hfl hE h1) npX4_emit rfl (Nat.le_of_ble_eq_true rfl) ?_
  refine j_iinc (L' := [(3, vI (w32 (v3 + 1))), (2, vI (x7)), (4, vI (x4)), (0, vR 13), (1, vI (v1))]) hX 4 dX4_readSum_65 hnl (by decide) rfl rfl ?_
  refine j_goto hX (tgt := 8) dX4_readSum_68 (by decide) ?_
  refine j_sub [3, 4, 1, 0] rfl ?_
  exact Hc _ _ _ h
theorem sl_X4_readSum_8 {X : K0} {B : Nat → Nat} {n : Nat} {E : Mem → Mem} {r : Int} {S' : Mem} {rO : Int → Mem → Option (Int × Mem)} {dd : Nat} (hdd : 6 ≤ dd) (hX : Ctx X cX4_readSum "TelegramFeelings$Law" (dd + 2)) (hR : CR X (some .boolean)) (hfl : (gX X).2.2.2.2 = true) (hnl : X.2.2.2.2.2.2.2.2.2.2.2.2.2.2 = 5) (hE : Lens E PC) (hO : ∀ (a1 : Int) (S : Mem) (r : Int) (S1 : Mem), rO a1 S = some (r, S1) → Cn (gX X) B n yX4_readOperand cX4_readOperand 5 (some .boolean) dd [vR 13, vI (a1)] (E S) (QcI (gX X) B n r (E S1)))  {v1 : Int}  : ∀ (fu : Nat) (v2 : Int) (v3 : Int) (S : Mem), g_X4_readSum_L8 rO v1 fu v2 v3 S = some (r, S') → JW X B n 0 0 8 [(0, vR 13), (1, vI (v1)), (2, vI (v2)), (3, vI (v3))] [] (E S) (QM X (QcI (gX X) B n r (E S'))) := by
  intro fu
  induction fu with
  | zero =>
    intro v2 v3 S h
    rw [g_X4_readSum_L8] at h
    cases h
  | succ fu ih =>
    intro v2 v3 S h
    rw [g_X4_readSum_L8] at h
    refine j_iload_n hX 3 dX4_readSum_8 rfl rfl ?_
    refine j_bipush hX dX4_readSum_9 (rc rfl) (by decide) ?_
    refine j_icmp_ge hX (tgt := 71) dX4_readSum_11 (by decide) (fun hc => ?_) (fun hc => ?_)
    · rw [if_pos hc] at h
      refine j_iload_n hX 2 dX4_readSum_71 rfl rfl ?_
      obtain ⟨hz, h⟩ := chk_s h
      cases h
      exact j_zret hX hR hz dX4_readSum_72
    · rw [if_neg hc] at h
      refine j_iload_n hX 2 dX4_readSum_14 rfl rfl ?_
      refine j_if_eq hX (tgt := 71) dX4_readSum_15 (by decide) (fun hc => ?_) (fun hc => ?_)
      · rw [if_pos hc] at h
        refine j_iload_n hX 2 dX4_readSum_71 rfl rfl ?_
        obtain ⟨hz, h⟩ := chk_s h
        cases h
        exact j_zret hX hR hz dX4_readSum_72
      · rw [if_neg hc] at h
        refine j_aload_n hX 0 dX4_readSum_18 rfl rfl ?_
        obtain ⟨x3, h1, h⟩ := bs h
        refine j_callVI hX mwX4_next miX4_next wd565 cbX4 ty13 hyX4_next (by omega) (by decide) ⟨Nat.zero_le _, Nat.zero_le _⟩ dX4_readSum_19 (s_X4_next hfl hE h1) npX4_next rfl (Nat.le_of_ble_eq_true rfl) ?_
        refine j_bipush hX dX4_readSum_22 (rc rfl) (by decide) ?_
        refine j_icmp_eq hX (tgt := 36) dX4_readSum_24 (by decide) (fun hc => ?_) (fun hc => ?_)
        · rw [if_pos hc] at h
          refine j_sub [0, 1, 3] rfl ?_
          exact sj_X4_readSum_36 hdd hX hR hfl hnl hE hO ih  h
        · rw [if_neg hc] at h
          refine j_aload_n hX 0 dX4_readSum_27 rfl rfl ?_
          obtain ⟨x9, h1, h⟩ := bs h
          refine j_callVI hX mwX4_next miX4_next wd565 cbX4 ty13 hyX4_next (by omega) (by decide) ⟨Nat.zero_le _, Nat.zero_le _⟩ dX4_readSum_28 (s_X4_next hfl hE h1) npX4_next rfl (Nat.le_of_ble_eq_true rfl) ?_
          refine j_bipush hX dX4_readSum_31 (rc rfl) (by decide) ?_
          refine j_icmp_ne hX (tgt := 71) dX4_readSum_33 (by decide) (fun hc => ?_) (fun hc => ?_)
          · rw [if_neg hc] at h
            refine j_iload_n hX 2 dX4_readSum_71 rfl rfl ?_
            obtain ⟨hz, h⟩ := chk_s h
            cases h
            exact j_zret hX hR hz dX4_readSum_72
          · rw [if_pos hc] at h
            refine j_sub [0, 1, 3] rfl ?_
            exact sj_X4_readSum_36 hdd hX hR hfl hnl hE hO ih  h
theorem s_X4_readSum {g : G0} {B : Nat → Nat} {n : Nat} {E : Mem → Mem} {a1 : Int} {S : Mem} {r : Int} {S' : Mem} (hfl : g.2.2.2.2 = true) {rO : Int → Mem → Option (Int × Mem)} {dd : Nat} (hdd : 6 ≤ dd) (hE : Lens E PC) (hO : ∀ (a1 : Int) (S : Mem) (r : Int) (S1 : Mem), rO a1 S = some (r, S1) → Cn g B n yX4_readOperand cX4_readOperand 5 (some .boolean) dd [vR 13, vI (a1)] (E S) (QcI g B n r (E S1))) (h : g_X4_readSum rO a1 S = some (r, S')) : Cn g B n yX4_readSum cX4_readSum 5 (some .boolean) (dd + 2) [vR 13, vI (a1)] (E S) (QcI g B n r (E S')) := by
  refine Cn.of (by decide +kernel) (Nat.le_of_ble_eq_true rfl) (fun X hg hnl hX hR => ?_)
  subst hg
  have hX : Ctx X cX4_readSum "TelegramFeelings$Law" (dd + 2) := hX
  unfold g_X4_readSum at h
  show JW X B n 0 0 0 [(0, vR 13), (1, vI (a1))] [] (E S) (QM X (QcI (gX X) B n r (E S')))
  refine j_aload_n hX 0 dX4_readSum_0 rfl rfl ?_
  refine j_iload_n hX 1 dX4_readSum_1 rfl rfl ?_
  obtain ⟨x2, S1, h1, h⟩ := bd2_s h
  refine j_callVI hX mwX4_readProduct miX4_readProduct wd557 cbX4 ty13 hyX4_readProduct (by omega) (by decide) ⟨Nat.zero_le _, Nat.zero_le _⟩ dX4_readSum_2 (s_X4_readProduct hfl hdd hE hO h1) npX4_readProduct rfl (Nat.le_of_ble_eq_true rfl) ?_
  refine j_istore_n (L' := [(2, vI (x2)), (0, vR 13), (1, vI (a1))]) hX dX4_readSum_5 rfl hnl (by decide) rfl ?_
  refine j_iconst hX dX4_readSum_6 (rc rfl) ?_
  refine j_istore_n (L' := [(3, vI (0)), (2, vI (x2)), (0, vR 13), (1, vI (a1))]) hX dX4_readSum_7 rfl hnl (by decide) rfl ?_
  refine j_sub [2, 3, 1, 0] rfl ?_
  refine sl_X4_readSum_8 hdd hX hR hfl hnl hE hO  _ _ _ _ h
theorem s_X4_readCompared {g : G0} {B : Nat → Nat} {n : Nat} {E : Mem → Mem} {a1 : Int} {S : Mem} {r : Int} {S' : Mem} (hfl : g.2.2.2.2 = true) {rO : Int → Mem → Option (Int × Mem)} {dd : Nat} (hdd : 6 ≤ dd) (hE : Lens E PC) (hO : ∀ (a1 : Int) (S : Mem) (r : Int) (S1 : Mem), rO a1 S = some (r, S1) → Cn g B n yX4_readOperand cX4_readOperand 5 (some .boolean) dd [vR 13, vI (a1)] (E S) (QcI g B n r (E S1))) (h : g_X4_readCompared rO a1 S = some (r, S')) : Cn g B n yX4_readCompared cX4_readCompared 4 (some .boolean) (dd + 3) [vR 13, vI (a1)] (E S) (QcI g B n r (E S')) := by
  refine Cn.of (by decide +kernel) (Nat.le_of_ble_eq_true rfl) (fun X hg hnl hX hR => ?_)
  subst hg
  have hX : Ctx X cX4_readCompared "TelegramFeelings$Law" (dd + 3) := hX
  unfold g_X4_readCompared at h
  show JW X B n 0 0 0 [(0, vR 13), (1, vI (a1))] [] (E S) (QM X (QcI (gX X) B n r (E S')))
  refine j_aload_n hX 0 dX4_readCompared_0 rfl rfl ?_
  refine j_iload_n hX 1 dX4_readCompared_1 rfl rfl ?_
  obtain ⟨x2, S1, h1, h⟩ := bd2_s h
  refine j_callVI hX mwX4_readSum miX4_readSum wd553 cbX4 ty13 hyX4_readSum (by omega) (by decide) ⟨Nat.zero_le _, Nat.zero_le _⟩ dX4_readCompared_2 (s_X4_readSum hfl hdd hE hO h1) npX4_readSum rfl (Nat.le_of_ble_eq_true rfl) ?_
  refine j_if_ne hX (tgt := 10) dX4_readCompared_5 (by decide) (fun hc => ?_) (fun hc => ?_)
  · rw [if_neg hc] at h
    refine j_aload_n hX 0 dX4_readCompared_10 rfl rfl ?_
    obtain ⟨x3, h1, h⟩ := bs h
    refine j_callVI hX mwX4_next miX4_next wd565 cbX4 ty13 hyX4_next (by omega) (by decide) ⟨Nat.zero_le _, Nat.zero_le _⟩ dX4_readCompared_11 (s_X4_next hfl hE h1) npX4_next rfl (Nat.le_of_ble_eq_true rfl) ?_
    refine j_istore_n (L' := [(2, vI (x3)), (0, vR 13), (1, vI (a1))]) hX dX4_readCompared_14 rfl hnl (by decide) rfl ?_
    refine j_iload_n hX 0 dX4_readCompared_15 rfl rfl ?_
    refine j_bipush hX dX4_readCompared_16 (rc rfl) (by decide) ?_
    refine j_icmp_eq hX (tgt := 35) dX4_readCompared_18 (by decide) (fun hc => ?_) (fun hc => ?_)
    · rw [if_pos hc] at h
      refine j_aload_n hX 1 dX4_readCompared_35 rfl rfl ?_
      refine j_dup hX dX4_readCompared_36 rfl ?_
      refine j_getI (k := 7) hX hE cbX4 ty13 pc13 (by decide) rfl wd186 rfl dX4_readCompared_37 ?_
      refine j_iconst hX dX4_readCompared_40 (rc rfl) ?_
      refine j_iadd hX dX4_readCompared_41 ?_
      refine j_putI (k := 7) hX hE cbX4 ty13 pc13 (by decide) rfl wd186 rfl (Or.inl rfl) rfl dX4_readCompared_42 ?_
      obtain ⟨S4, hx, h⟩ := ap_s h
      rw [← hx]
      clear hx
      refine j_aload_n hX 1 dX4_readCompared_45 rfl rfl ?_
      refine j_iload_n hX 2 dX4_readCompared_46 rfl rfl ?_
      obtain ⟨x6, S5, h1, h⟩ := bd2_s h
      refine j_callVI hX mwX4_readSum miX4_readSum wd553 cbX4 ty13 hyX4_readSum (by omega) (by decide) ⟨Nat.zero_le _, Nat.zero_le _⟩ dX4_readCompared_47 (s_X4_readSum hfl hdd hE hO h1) npX4_readSum rfl (Nat.le_of_ble_eq_true rfl) ?_
      refine j_istore_n (L' := [(3, vI (x6)), (2, vI (x3)), (0, vR 13), (1, vI (a1))]) hX dX4_readCompared_50 rfl hnl (by decide) rfl ?_
      refine j_aload_n hX 2 dX4_readCompared_51 rfl rfl ?_
      refine j_iload_n hX 1 dX4_readCompared_52 rfl rfl ?_
      refine j_ineg hX dX4_readCompared_53 ?_
      obtain ⟨S7, h1, h⟩ := bs h
      refine j_callVV hX mwX4_emit miX4_emit wd576 cbX4 ty13 hyX4_emit (by omega) (by decide) ⟨Nat.zero_le _, Nat.zero_le _⟩ dX4_readCompared_54 (s_X4_emit hfl hE h1) npX4_emit rfl (Nat.le_of_ble_eq_true rfl) ?_
      refine j_iload_n hX 0 dX4_readCompared_57 rfl rfl ?_
      obtain ⟨hz, h⟩ := chk_s h
      cases h
      exact j_zret hX hR hz dX4_readCompared_58
    · rw [if_neg hc] at h
      refine j_iload_n hX 0 dX4_readCompared_21 rfl rfl ?_
      refine j_bipush hX dX4_readCompared_22 (rc rfl) (by decide) ?_
      refine j_icmp_eq hX (tgt := 35) dX4_readCompared_24 (by decide) (fun hc => ?_) (fun hc => ?_)
      · rw [if_pos hc] at h
        refine j_aload_n hX 1 dX4_readCompared_35 rfl rfl ?_
        refine j_dup hX dX4_readCompared_36 rfl ?_
        refine j_getI (k := 7) hX hE cbX4 ty13 pc13 (by decide) rfl wd186 rfl dX4_readCompared_37 ?_
        refine j_iconst hX dX4_readCompared_40 (rc rfl) ?_
        refine j_iadd hX dX4_readCompared_41 ?_
        refine j_putI (k := 7) hX hE cbX4 ty13 pc13 (by decide) rfl wd186 rfl (Or.inl rfl) rfl dX4_readCompared_42 ?_
        obtain ⟨S8, hx, h⟩ := ap_s h
        rw [← hx]
        clear hx
        refine j_aload_n hX 1 dX4_readCompared_45 rfl rfl ?_
        refine j_iload_n hX 2 dX4_readCompared_46 rfl rfl ?_
        obtain ⟨x10, S9, h1, h⟩ := bd2_s h
        refine j_callVI hX mwX4_readSum miX4_readSum wd553 cbX4 ty13 hyX4_readSum (by omega) (by decide) ⟨Nat.zero_le _, Nat.zero_le _⟩ dX4_readCompared_47 (s_X4_readSum hfl hdd hE hO h1) npX4_readSum rfl (Nat.le_of_ble_eq_true rfl) ?_
        refine j_istore_n (L' := [(3, vI (x10)), (2, vI (x3)), (0, vR 13), (1, vI (a1))]) hX dX4_readCompared_50 rfl hnl (by decide) rfl ?_
        refine j_aload_n hX 2 dX4_readCompared_51 rfl rfl ?_
        refine j_iload_n hX 1 dX4_readCompared_52 rfl rfl ?_
        refine j_ineg hX dX4_readCompared_53 ?_
        obtain ⟨S11, h1, h⟩ := bs h
        refine j_callVV hX mwX4_emit miX4_emit wd576 cbX4 ty13 hyX4_emit (by omega) (by decide) ⟨Nat.zero_le _, Nat.zero_le _⟩ dX4_readCompared_54 (s_X4_emit hfl hE h1) npX4_emit rfl (Nat.le_of_ble_eq_true rfl) ?_
        refine j_iload_n hX 0 dX4_readCompared_57 rfl rfl ?_
        obtain ⟨hz, h⟩ := chk_s h
        cases h
        exact j_zret hX hR hz dX4_readCompared_58
      · rw [if_neg hc] at h
        refine j_iload_n hX 0 dX4_readCompared_27 rfl rfl ?_
        refine j_bipush hX dX4_readCompared_28 (rc rfl) (by decide) ?_
        refine j_icmp_eq hX (tgt := 35) dX4_readCompared_30 (by decide) (fun hc => ?_) (fun hc => ?_)
        · rw [if_pos hc] at h
          refine j_aload_n hX 1 dX4_readCompared_35 rfl rfl ?_
          refine j_dup hX dX4_readCompared_36 rfl ?_
          refine j_getI (k := 7) hX hE cbX4 ty13 pc13 (by decide) rfl wd186 rfl dX4_readCompared_37 ?_
          refine j_iconst hX dX4_readCompared_40 (rc rfl) ?_
          refine j_iadd hX dX4_readCompared_41 ?_
          refine j_putI (k := 7) hX hE cbX4 ty13 pc13 (by decide) rfl wd186 rfl (Or.inl rfl) rfl dX4_readCompared_42 ?_
          obtain ⟨S12, hx, h⟩ := ap_s h
          rw [← hx]
          clear hx
          refine j_aload_n hX 1 dX4_readCompared_45 rfl rfl ?_
          refine j_iload_n hX 2 dX4_readCompared_46 rfl rfl ?_
          obtain ⟨x14, S13, h1, h⟩ := bd2_s h
          refine j_callVI hX mwX4_readSum miX4_readSum wd553 cbX4 ty13 hyX4_readSum (by omega) (by decide) ⟨Nat.zero_le _, Nat.zero_le _⟩ dX4_readCompared_47 (s_X4_readSum hfl hdd hE hO h1) npX4_readSum rfl (Nat.le_of_ble_eq_true rfl) ?_
          refine j_istore_n (L' := [(3, vI (x14)), (2, vI (x3)), (0, vR 13), (1, vI (a1))]) hX dX4_readCompared_50 rfl hnl (by decide) rfl ?_
          refine j_aload_n hX 2 dX4_readCompared_51 rfl rfl ?_
          refine j_iload_n hX 1 dX4_readCompared_52 rfl rfl ?_
          refine j_ineg hX dX4_readCompared_53 ?_
          obtain ⟨S15, h1, h⟩ := bs h
          refine j_callVV hX mwX4_emit miX4_emit wd576 cbX4 ty13 hyX4_emit (by omega) (by decide) ⟨Nat.zero_le _, Nat.zero_le _⟩ dX4_readCompared_54 (s_X4_emit hfl hE h1) npX4_emit rfl (Nat.le_of_ble_eq_true rfl) ?_
          refine j_iload_n hX 0 dX4_readCompared_57 rfl rfl ?_
          obtain ⟨hz, h⟩ := chk_s h
          cases h
          exact j_zret hX hR hz dX4_readCompared_58
        · rw [if_neg hc] at h
          refine j_iconst hX dX4_readCompared_33 (rc rfl) ?_
          cases h
          exact j_zret hX hR (Or.inr rfl) dX4_readCompared_34
  · rw [if_pos hc] at h
    refine j_iconst hX dX4_readCompared_8 (rc rfl) ?_
    cases h
    exact j_zret hX hR (Or.inl rfl) dX4_readCompared_9
theorem sl_X4_readBoth_8 {X : K0} {B : Nat → Nat} {n : Nat} {E : Mem → Mem} {r : Int} {S' : Mem} {rO : Int → Mem → Option (Int × Mem)} {dd : Nat} (hdd : 6 ≤ dd) (hX : Ctx X cX4_readBoth "TelegramFeelings$Law" (dd + 4)) (hR : CR X (some .boolean)) (hfl : (gX X).2.2.2.2 = true) (hnl : X.2.2.2.2.2.2.2.2.2.2.2.2.2.2 = 4) (hE : Lens E PC) (hO : ∀ (a1 : Int) (S : Mem) (r : Int) (S1 : Mem), rO a1 S = some (r, S1) → Cn (gX X) B n yX4_readOperand cX4_readOperand 5 (some .boolean) dd [vR 13, vI (a1)] (E S) (QcI (gX X) B n r (E S1)))  {v1 : Int}  : ∀ (fu : Nat) (v2 : Int) (v3 : Int) (S : Mem), g_X4_readBoth_L8 rO v1 fu v2 v3 S = some (r, S') → JW X B n 0 0 8 [(0, vR 13), (1, vI (v1)), (2, vI (v2)), (3, vI (v3))] [] (E S) (QM X (QcI (gX X) B n r (E S'))) := by
  intro fu
  induction fu with
  | zero =>
    intro v2 v3 S h
    rw [g_X4_readBoth_L8] at h
    cases h
  | succ fu ih =>
    intro v2 v3 S h
    rw [g_X4_readBoth_L8] at h
    refine j_iload_n hX 3 dX4_readBoth_8 rfl rfl ?_
    refine j_bipush hX dX4_readBoth_9 (rc rfl) (by decide) ?_
    refine j_icmp_ge hX (tgt := 45) dX4_readBoth_11 (by decide) (fun hc => ?_) (fun hc => ?_)
    · rw [if_pos hc] at h
      refine j_iload_n hX 2 dX4_readBoth_45 rfl rfl ?_
      obtain ⟨hz, h⟩ := chk_s h
      cases h
      exact j_zret hX hR hz dX4_readBoth_46
    · rw [if_neg hc] at h
      refine j_iload_n hX 2 dX4_readBoth_14 rfl rfl ?_
      refine j_if_eq hX (tgt := 45) dX4_readBoth_15 (by decide) (fun hc => ?_) (fun hc => ?_)
      · rw [if_pos hc] at h
        refine j_iload_n hX 2 dX4_readBoth_45 rfl rfl ?_
        obtain ⟨hz, h⟩ := chk_s h
        cases h
        exact j_zret hX hR hz dX4_readBoth_46
      · rw [if_neg hc] at h
        refine j_aload_n hX 0 dX4_readBoth_18 rfl rfl ?_
        refine j_bipush hX dX4_readBoth_19 (rc rfl) (by decide) ?_
        obtain ⟨x4, S3, h1, h⟩ := bd2_s h
        refine j_callVI hX mwX4_takes miX4_takes wd657 cbX4 ty13 hyX4_takes (by omega) (by decide) ⟨Nat.zero_le _, Nat.zero_le _⟩ dX4_readBoth_21 (s_X4_takes hfl hE h1) npX4_takes rfl (Nat.le_of_ble_eq_true rfl) ?_
        refine j_if_eq hX (tgt := 45) dX4_readBoth_24 (by decide) (fun hc => ?_) (fun hc => ?_)
        · rw [if_pos hc] at h
          refine j_iload_n hX 2 dX4_readBoth_45 rfl rfl ?_
          obtain ⟨hz, h⟩ := chk_s h
          cases h
          exact j_zret hX hR hz dX4_readBoth_46
        · rw [if_neg hc] at h
          refine j_aload_n hX 0 dX4_readBoth_27 rfl rfl ?_
          refine j_iload_n hX 1 dX4_readBoth_28 rfl rfl ?_
          obtain ⟨x6, S5, h1, h⟩ := bd2_s h
          refine j_callVI hX mwX4_readCompared miX4_readCompared wd549 cbX4 ty13 hyX4_readCompared (by omega) (by decide) ⟨Nat.zero_le _, Nat.zero_le _⟩ dX4_readBoth_29 (s_X4_readCompared hfl hdd hE hO h1) npX4_readCompared rfl (Nat.le_of_ble_eq_true rfl) ?_
          refine j_istore_n (L' := [(2, vI (x6)), (0, vR 13), (1, vI (v1)), (3, vI (v3))]) hX dX4_readBoth_32 rfl hnl (by decide) rfl ?_
          refine j_aload_n hX 1 dX4_readBoth_33 rfl rfl ?_
          refine j_bipush hX dX4_readBoth_34 (rc rfl) (by decide) ?_
          obtain ⟨S7, h1, h⟩ := bs h
          refine j_callVV hX mwX4_emit miX4_emit wd576 cbX4 ty13 hyX4_emit (by omega) (by decide) ⟨Nat.zero_le _, Nat.zero_le _⟩ dX4_readBoth_36 (s_X4_emit hfl hE h1) npX4_emit rfl (Nat.le_of_ble_eq_true rfl) ?_
          refine j_iinc (L' := [(3, vI (w32 (v3 + 1))), (2, vI (x6)), (0, vR 13), (1, vI (v1))]) hX 3 dX4_readBoth_39 hnl (by decide) rfl rfl ?_
          refine j_goto hX (tgt := 8) dX4_readBoth_42 (by decide) ?_
          refine j_sub [2, 3, 1, 0] rfl ?_
          exact ih _ _ _ h
theorem s_X4_readBoth {g : G0} {B : Nat → Nat} {n : Nat} {E : Mem → Mem} {a1 : Int} {S : Mem} {r : Int} {S' : Mem} (hfl : g.2.2.2.2 = true) {rO : Int → Mem → Option (Int × Mem)} {dd : Nat} (hdd : 6 ≤ dd) (hE : Lens E PC) (hO : ∀ (a1 : Int) (S : Mem) (r : Int) (S1 : Mem), rO a1 S = some (r, S1) → Cn g B n yX4_readOperand cX4_readOperand 5 (some .boolean) dd [vR 13, vI (a1)] (E S) (QcI g B n r (E S1))) (h : g_X4_readBoth rO a1 S = some (r, S')) : Cn g B n yX4_readBoth cX4_readBoth 4 (some .boolean) (dd + 4) [vR 13, vI (a1)] (E S) (QcI g B n r (E S')) := by
  refine Cn.of (by decide +kernel) (Nat.le_of_ble_eq_true rfl) (fun X hg hnl hX hR => ?_)
  subst hg
  have hX : Ctx X cX4_readBoth "TelegramFeelings$Law" (dd + 4) := hX
  unfold g_X4_readBoth at h
  show JW X B n 0 0 0 [(0, vR 13), (1, vI (a1))] [] (E S) (QM X (QcI (gX X) B n r (E S')))
  refine j_aload_n hX 0 dX4_readBoth_0 rfl rfl ?_
  refine j_iload_n hX 1 dX4_readBoth_1 rfl rfl ?_
  obtain ⟨x2, S1, h1, h⟩ := bd2_s h
  refine j_callVI hX mwX4_readCompared miX4_readCompared wd549 cbX4 ty13 hyX4_readCompared (by omega) (by decide) ⟨Nat.zero_le _, Nat.zero_le _⟩ dX4_readBoth_2 (s_X4_readCompared hfl hdd hE hO h1) npX4_readCompared rfl (Nat.le_of_ble_eq_true rfl) ?_
  refine j_istore_n (L' := [(2, vI (x2)), (0, vR 13), (1, vI (a1))]) hX dX4_readBoth_5 rfl hnl (by decide) rfl ?_
  refine j_iconst hX dX4_readBoth_6 (rc rfl) ?_
  refine j_istore_n (L' := [(3, vI (0)), (2, vI (x2)), (0, vR 13), (1, vI (a1))]) hX dX4_readBoth_7 rfl hnl (by decide) rfl ?_
  refine j_sub [2, 3, 1, 0] rfl ?_
  refine sl_X4_readBoth_8 hdd hX hR hfl hnl hE hO  _ _ _ _ h
theorem sl_X4_readEither_8 {X : K0} {B : Nat → Nat} {n : Nat} {E : Mem → Mem} {r : Int} {S' : Mem} {rO : Int → Mem → Option (Int × Mem)} {dd : Nat} (hdd : 6 ≤ dd) (hX : Ctx X cX4_readEither "TelegramFeelings$Law" (dd + 5)) (hR : CR X (some .boolean)) (hfl : (gX X).2.2.2.2 = true) (hnl : X.2.2.2.2.2.2.2.2.2.2.2.2.2.2 = 4) (hE : Lens E PC) (hO : ∀ (a1 : Int) (S : Mem) (r : Int) (S1 : Mem), rO a1 S = some (r, S1) → Cn (gX X) B n yX4_readOperand cX4_readOperand 5 (some .boolean) dd [vR 13, vI (a1)] (E S) (QcI (gX X) B n r (E S1)))  {v1 : Int}  : ∀ (fu : Nat) (v2 : Int) (v3 : Int) (S : Mem), g_X4_readEither_L8 rO v1 fu v2 v3 S = some (r, S') → JW X B n 0 0 8 [(0, vR 13), (1, vI (v1)), (2, vI (v2)), (3, vI (v3))] [] (E S) (QM X (QcI (gX X) B n r (E S'))) := by
  intro fu
  induction fu with
  | zero =>
    intro v2 v3 S h
    rw [g_X4_readEither_L8] at h
    cases h
  | succ fu ih =>
    intro v2 v3 S h
    rw [g_X4_readEither_L8] at h
    refine j_iload_n hX 3 dX4_readEither_8 rfl rfl ?_
    refine j_bipush hX dX4_readEither_9 (rc rfl) (by decide) ?_
    refine j_icmp_ge hX (tgt := 45) dX4_readEither_11 (by decide) (fun hc => ?_) (fun hc => ?_)
    · rw [if_pos hc] at h
      refine j_iload_n hX 2 dX4_readEither_45 rfl rfl ?_
      obtain ⟨hz, h⟩ := chk_s h
      cases h
      exact j_zret hX hR hz dX4_readEither_46
    · rw [if_neg hc] at h
      refine j_iload_n hX 2 dX4_readEither_14 rfl rfl ?_
      refine j_if_eq hX (tgt := 45) dX4_readEither_15 (by decide) (fun hc => ?_) (fun hc => ?_)
      · rw [if_pos hc] at h
        refine j_iload_n hX 2 dX4_readEither_45 rfl rfl ?_
        obtain ⟨hz, h⟩ := chk_s h
        cases h
        exact j_zret hX hR hz dX4_readEither_46
      · rw [if_neg hc] at h
        refine j_aload_n hX 0 dX4_readEither_18 rfl rfl ?_
        refine j_bipush hX dX4_readEither_19 (rc rfl) (by decide) ?_
        obtain ⟨x4, S3, h1, h⟩ := bd2_s h
        refine j_callVI hX mwX4_takes miX4_takes wd657 cbX4 ty13 hyX4_takes (by omega) (by decide) ⟨Nat.zero_le _, Nat.zero_le _⟩ dX4_readEither_21 (s_X4_takes hfl hE h1) npX4_takes rfl (Nat.le_of_ble_eq_true rfl) ?_
        refine j_if_eq hX (tgt := 45) dX4_readEither_24 (by decide) (fun hc => ?_) (fun hc => ?_)
        · rw [if_pos hc] at h
          refine j_iload_n hX 2 dX4_readEither_45 rfl rfl ?_
          obtain ⟨hz, h⟩ := chk_s h
          cases h
          exact j_zret hX hR hz dX4_readEither_46
        · rw [if_neg hc] at h
          refine j_aload_n hX 0 dX4_readEither_27 rfl rfl ?_
          refine j_iload_n hX 1 dX4_readEither_28 rfl rfl ?_
          obtain ⟨x6, S5, h1, h⟩ := bd2_s h
          refine j_callVI hX mwX4_readBoth miX4_readBoth wd545 cbX4 ty13 hyX4_readBoth (by omega) (by decide) ⟨Nat.zero_le _, Nat.zero_le _⟩ dX4_readEither_29 (s_X4_readBoth hfl hdd hE hO h1) npX4_readBoth rfl (Nat.le_of_ble_eq_true rfl) ?_
          refine j_istore_n (L' := [(2, vI (x6)), (0, vR 13), (1, vI (v1)), (3, vI (v3))]) hX dX4_readEither_32 rfl hnl (by decide) rfl ?_
          refine j_aload_n hX 1 dX4_readEither_33 rfl rfl ?_
          refine j_bipush hX dX4_readEither_34 (rc rfl) (by decide) ?_
          obtain ⟨S7, h1, h⟩ := bs h
          refine j_callVV hX mwX4_emit miX4_emit wd576 cbX4 ty13 hyX4_emit (by omega) (by decide) ⟨Nat.zero_le _, Nat.zero_le _⟩ dX4_readEither_36 (s_X4_emit hfl hE h1) npX4_emit rfl (Nat.le_of_ble_eq_true rfl) ?_
          refine j_iinc (L' := [(3, vI (w32 (v3 + 1))), (2, vI (x6)), (0, vR 13), (1, vI (v1))]) hX 3 dX4_readEither_39 hnl (by decide) rfl rfl ?_
          refine j_goto hX (tgt := 8) dX4_readEither_42 (by decide) ?_
          refine j_sub [2, 3, 1, 0] rfl ?_
          exact ih _ _ _ h
theorem s_X4_readEither {g : G0} {B : Nat → Nat} {n : Nat} {E : Mem → Mem} {a1 : Int} {S : Mem} {r : Int} {S' : Mem} (hfl : g.2.2.2.2 = true) {rO : Int → Mem → Option (Int × Mem)} {dd : Nat} (hdd : 6 ≤ dd) (hE : Lens E PC) (hO : ∀ (a1 : Int) (S : Mem) (r : Int) (S1 : Mem), rO a1 S = some (r, S1) → Cn g B n yX4_readOperand cX4_readOperand 5 (some .boolean) dd [vR 13, vI (a1)] (E S) (QcI g B n r (E S1))) (h : g_X4_readEither rO a1 S = some (r, S')) : Cn g B n yX4_readEither cX4_readEither 4 (some .boolean) (dd + 5) [vR 13, vI (a1)] (E S) (QcI g B n r (E S')) := by
  refine Cn.of (by decide +kernel) (Nat.le_of_ble_eq_true rfl) (fun X hg hnl hX hR => ?_)
  subst hg
  have hX : Ctx X cX4_readEither "TelegramFeelings$Law" (dd + 5) := hX
  unfold g_X4_readEither at h
  show JW X B n 0 0 0 [(0, vR 13), (1, vI (a1))] [] (E S) (QM X (QcI (gX X) B n r (E S')))
  refine j_aload_n hX 0 dX4_readEither_0 rfl rfl ?_
  refine j_iload_n hX 1 dX4_readEither_1 rfl rfl ?_
  obtain ⟨x2, S1, h1, h⟩ := bd2_s h
  refine j_callVI hX mwX4_readBoth miX4_readBoth wd545 cbX4 ty13 hyX4_readBoth (by omega) (by decide) ⟨Nat.zero_le _, Nat.zero_le _⟩ dX4_readEither_2 (s_X4_readBoth hfl hdd hE hO h1) npX4_readBoth rfl (Nat.le_of_ble_eq_true rfl) ?_
  refine j_istore_n (L' := [(2, vI (x2)), (0, vR 13), (1, vI (a1))]) hX dX4_readEither_5 rfl hnl (by decide) rfl ?_
  refine j_iconst hX dX4_readEither_6 (rc rfl) ?_
  refine j_istore_n (L' := [(3, vI (0)), (2, vI (x2)), (0, vR 13), (1, vI (a1))]) hX dX4_readEither_7 rfl hnl (by decide) rfl ?_
  refine j_sub [2, 3, 1, 0] rfl ?_
  refine sl_X4_readEither_8 hdd hX hR hfl hnl hE hO  _ _ _ _ h
theorem sj_X4_readOperand_83 {X : K0} {B : Nat → Nat} {n : Nat} {E : Mem → Mem} {r : Int} {S' : Mem} {rO : Int → Mem → Option (Int × Mem)} {dd : Nat} (hdd : 6 ≤ dd) (hX : Ctx X cX4_readOperand "TelegramFeelings$Law" (dd + 6)) (hR : CR X (some .boolean)) (hfl : (gX X).2.2.2.2 = true) (hnl : X.2.2.2.2.2.2.2.2.2.2.2.2.2.2 = 5) (hE : Lens E PC) (hO : ∀ (a1 : Int) (S : Mem) (r : Int) (S1 : Mem), rO a1 S = some (r, S1) → Cn (gX X) B n yX4_readOperand cX4_readOperand 5 (some .boolean) dd [vR 13, vI (a1)] (E S) (QcI (gX X) B n r (E S1)))   {v1 : Int} {v2 : Int} {S : Mem} (h : g_X4_readOperand_J83 rO v1 v2 S = some (r, S')) : JW X B n 0 0 83 [(0, vR 13), (1, vI (v1)), (2, vI (v2))] [] (E S) (QM X (QcI (gX X) B n r (E S'))) := by
  unfold g_X4_readOperand_J83 at h
  refine j_aload_n hX 0 dX4_readOperand_83 rfl rfl ?_
  refine j_dup hX dX4_readOperand_84 rfl ?_
  refine j_getI (k := 7) hX hE cbX4 ty13 pc13 (by decide) rfl wd186 rfl dX4_readOperand_85 ?_
  refine j_iconst hX dX4_readOperand_88 (rc rfl) ?_
  refine j_iadd hX dX4_readOperand_89 ?_
  refine j_putI (k := 7) hX hE cbX4 ty13 pc13 (by decide) rfl wd186 rfl (Or.inl rfl) rfl dX4_readOperand_90 ?_
  obtain ⟨S2, hx, h⟩ := ap_s h
  rw [← hx]
  clear hx
  refine j_iload_n hX 2 dX4_readOperand_93 rfl rfl ?_
  refine j_bipush hX dX4_readOperand_94 (rc rfl) (by decide) ?_
  refine j_icmp_ne hX (tgt := 124) dX4_readOperand_96 (by decide) (fun hc => ?_) (fun hc => ?_)
  · rw [if_neg hc] at h
    refine j_aload_n hX 0 dX4_readOperand_124 rfl rfl ?_
    refine j_iload_n hX 1 dX4_readOperand_125 rfl rfl ?_
    refine j_iconst hX dX4_readOperand_126 (rc rfl) ?_
    refine j_iadd hX dX4_readOperand_127 ?_
    obtain ⟨x4, S3, h1, h⟩ := bd2_s h
    refine j_callVI hX mwX4_readOperand miX4_readOperand wd561 cbX4 ty13 hyX4_readOperand (by omega) (by decide) ⟨Nat.zero_le _, Nat.zero_le _⟩ dX4_readOperand_128 (hO _ _ _ _ h1) npX4_readOperand rfl (Nat.le_of_ble_eq_true rfl) ?_
    refine j_istore (L' := [(4, vI (x4)), (0, vR 13), (1, vI (v1)), (2, vI (v2))]) hX dX4_readOperand_131 hnl (by decide) rfl ?_
    refine j_aload_n hX 1 dX4_readOperand_133 rfl rfl ?_
    refine j_iload_n hX 3 dX4_readOperand_134 rfl rfl ?_
    refine j_bipush hX dX4_readOperand_135 (rc rfl) (by decide) ?_
    refine j_icmp_ne hX (tgt := 145) dX4_readOperand_137 (by decide) (fun hc => ?_) (fun hc => ?_)
    · rw [if_neg hc] at h
      refine j_iload_n hX 3 dX4_readOperand_145 rfl rfl ?_
      refine j_ineg hX dX4_readOperand_146 ?_
      obtain ⟨S5, h1, h⟩ := bs h
      refine j_callVV hX mwX4_emit miX4_emit wd576 cbX4 ty13 hyX4_emit (by omega) (by decide) ⟨Nat.zero_le _, Nat.zero_le _⟩ dX4_readOperand_147 (s_X4_emit hfl hE h1) npX4_emit rfl (Nat.le_of_ble_eq_true rfl) ?_
      refine j_iload hX 0 dX4_readOperand_150 rfl ?_
      obtain ⟨hz, h⟩ := chk_s h
      cases h
      exact j_zret hX hR hz dX4_readOperand_152
    · rw [if_pos hc] at h
      refine j_bipush hX dX4_readOperand_140 (rc rfl) (by decide) ?_
      refine j_goto hX (tgt := 147) dX4_readOperand_142 (by decide) ?_
      obtain ⟨S6, h1, h⟩ := bs h
      refine j_callVV hX mwX4_emit miX4_emit wd576 cbX4 ty13 hyX4_emit (by omega) (by decide) ⟨Nat.zero_le _, Nat.zero_le _⟩ dX4_readOperand_147 (s_X4_emit hfl hE h1) npX4_emit rfl (Nat.le_of_ble_eq_true rfl) ?_
      refine j_iload hX 0 dX4_readOperand_150 rfl ?_
      obtain ⟨hz, h⟩ := chk_s h
      cases h
      exact j_zret hX hR hz dX4_readOperand_152
  · rw [if_pos hc] at h
    refine j_aload_n hX 0 dX4_readOperand_99 rfl rfl ?_
    refine j_iload_n hX 1 dX4_readOperand_100 rfl rfl ?_
    refine j_iconst hX dX4_readOperand_101 (rc rfl) ?_
    refine j_iadd hX dX4_readOperand_102 ?_
    obtain ⟨x8, S7, h1, h⟩ := bd2_s h
    refine j_callVI hX mwX4_readEither miX4_readEither wd541 cbX4 ty13 hyX4_readEither (by omega) (by decide) ⟨Nat.zero_le _, Nat.zero_le _⟩ dX4_readOperand_103 (s_X4_readEither hfl hdd hE hO h1) npX4_readEither rfl (Nat.le_of_ble_eq_true rfl) ?_
    refine j_if_eq hX (tgt := 122) dX4_readOperand_106 (by decide) (fun hc => ?_) (fun hc => ?_)
    · rw [if_pos hc] at h
      refine j_iconst hX dX4_readOperand_122 (rc rfl) ?_
      cases h
      exact j_zret hX hR (Or.inl rfl) dX4_readOperand_123
    · rw [if_neg hc] at h
      refine j_aload_n hX 0 dX4_readOperand_109 rfl rfl ?_
      refine j_bipush hX dX4_readOperand_110 (rc rfl) (by decide) ?_
      obtain ⟨x10, S9, h1, h⟩ := bd2_s h
      refine j_callVI hX mwX4_takes miX4_takes wd657 cbX4 ty13 hyX4_takes (by omega) (by decide) ⟨Nat.zero_le _, Nat.zero_le _⟩ dX4_readOperand_112 (s_X4_takes hfl hE h1) npX4_takes rfl (Nat.le_of_ble_eq_true rfl) ?_
      refine j_if_eq hX (tgt := 122) dX4_readOperand_115 (by decide) (fun hc => ?_) (fun hc => ?_)
      · rw [if_pos hc] at h
        refine j_iconst hX dX4_readOperand_122 (rc rfl) ?_
        cases h
        exact j_zret hX hR (Or.inl rfl) dX4_readOperand_123
      · rw [if_neg hc] at h
        refine j_iconst hX dX4_readOperand_118 (rc rfl) ?_
        refine j_goto hX (tgt := 123) dX4_readOperand_119 (by decide) ?_
        cases h
        exact j_zret hX hR (Or.inr rfl) dX4_readOperand_123
theorem sj_X4_readOperand_33 {X : K0} {B : Nat → Nat} {n : Nat} {E : Mem → Mem} {r : Int} {S' : Mem} {rO : Int → Mem → Option (Int × Mem)} {dd : Nat} (hdd : 6 ≤ dd) (hX : Ctx X cX4_readOperand "TelegramFeelings$Law" (dd + 6)) (hR : CR X (some .boolean)) (hfl : (gX X).2.2.2.2 = true) (hnl : X.2.2.2.2.2.2.2.2.2.2.2.2.2.2 = 5) (hE : Lens E PC) (hO : ∀ (a1 : Int) (S : Mem) (r : Int) (S1 : Mem), rO a1 S = some (r, S1) → Cn (gX X) B n yX4_readOperand cX4_readOperand 5 (some .boolean) dd [vR 13, vI (a1)] (E S) (QcI (gX X) B n r (E S1)))   {v1 : Int} {v2 : Int} {s0 : Int} {S : Mem} (h : g_X4_readOperand_J33 rO v1 v2 s0 S = some (r, S')) : JW X B n 0 0 33 [(0, vR 13), (1, vI (v1)), (2, vI (v2))] [vI (s0)] (E S) (QM X (QcI (gX X) B n r (E S'))) := by
  unfold g_X4_readOperand_J33 at h
  refine j_istore_n (L' := [(3, vI (s0)), (0, vR 13), (1, vI (v1)), (2, vI (v2))]) hX dX4_readOperand_33 rfl hnl (by decide) rfl ?_
  refine j_iload_n hX 0 dX4_readOperand_34 rfl rfl ?_
  refine j_if_lt hX (tgt := 57) dX4_readOperand_35 (by decide) (fun hc => ?_) (fun hc => ?_)
  · rw [if_pos hc] at h
    refine j_iload_n hX 2 dX4_readOperand_57 rfl rfl ?_
    refine j_bipush hX dX4_readOperand_58 (rc rfl) (by decide) ?_
    refine j_icmp_ge hX (tgt := 81) dX4_readOperand_60 (by decide) (fun hc => ?_) (fun hc => ?_)
    · rw [if_pos hc] at h
      refine j_iconst hX dX4_readOperand_81 (rc rfl) ?_
      cases h
      exact j_zret hX hR (Or.inl rfl) dX4_readOperand_82
    · rw [if_neg hc] at h
      refine j_iload_n hX 3 dX4_readOperand_63 rfl rfl ?_
      refine j_bipush hX dX4_readOperand_64 (rc rfl) (by decide) ?_
      refine j_icmp_eq hX (tgt := 83) dX4_readOperand_66 (by decide) (fun hc => ?_) (fun hc => ?_)
      · rw [if_pos hc] at h
        refine j_sub [1, 2, 3] rfl ?_
        exact sj_X4_readOperand_83 hdd hX hR hfl hnl hE hO  h
      · rw [if_neg hc] at h
        refine j_iload_n hX 3 dX4_readOperand_69 rfl rfl ?_
        refine j_bipush hX dX4_readOperand_70 (rc rfl) (by decide) ?_
        refine j_icmp_eq hX (tgt := 83) dX4_readOperand_72 (by decide) (fun hc => ?_) (fun hc => ?_)
        · rw [if_pos hc] at h
          refine j_sub [1, 2, 3] rfl ?_
          exact sj_X4_readOperand_83 hdd hX hR hfl hnl hE hO  h
        · rw [if_neg hc] at h
          refine j_iload_n hX 3 dX4_readOperand_75 rfl rfl ?_
          refine j_bipush hX dX4_readOperand_76 (rc rfl) (by decide) ?_
          refine j_icmp_eq hX (tgt := 83) dX4_readOperand_78 (by decide) (fun hc => ?_) (fun hc => ?_)
          · rw [if_pos hc] at h
            refine j_sub [1, 2, 3] rfl ?_
            exact sj_X4_readOperand_83 hdd hX hR hfl hnl hE hO  h
          · rw [if_neg hc] at h
            refine j_iconst hX dX4_readOperand_81 (rc rfl) ?_
            cases h
            exact j_zret hX hR (Or.inl rfl) dX4_readOperand_82
  · rw [if_neg hc] at h
    refine j_aload_n hX 1 dX4_readOperand_38 rfl rfl ?_
    refine j_dup hX dX4_readOperand_39 rfl ?_
    refine j_getI (k := 7) hX hE cbX4 ty13 pc13 (by decide) rfl wd186 rfl dX4_readOperand_40 ?_
    refine j_iconst hX dX4_readOperand_43 (rc rfl) ?_
    refine j_iadd hX dX4_readOperand_44 ?_
    refine j_putI (k := 7) hX hE cbX4 ty13 pc13 (by decide) rfl wd186 rfl (Or.inl rfl) rfl dX4_readOperand_45 ?_
    obtain ⟨S11, hx, h⟩ := ap_s h
    rw [← hx]
    clear hx
    refine j_aload_n hX 1 dX4_readOperand_48 rfl rfl ?_
    refine j_iconst hX dX4_readOperand_49 (rc rfl) ?_
    refine j_iload_n hX 0 dX4_readOperand_50 rfl rfl ?_
    refine j_isub hX dX4_readOperand_51 ?_
    obtain ⟨S12, h1, h⟩ := bs h
    refine j_callVV hX mwX4_emit miX4_emit wd576 cbX4 ty13 hyX4_emit (by omega) (by decide) ⟨Nat.zero_le _, Nat.zero_le _⟩ dX4_readOperand_52 (s_X4_emit hfl hE h1) npX4_emit rfl (Nat.le_of_ble_eq_true rfl) ?_
    refine j_iconst hX dX4_readOperand_55 (rc rfl) ?_
    cases h
    exact j_zret hX hR (Or.inr rfl) dX4_readOperand_56
theorem s_X4_readOperand_B {g : G0} {B : Nat → Nat} {n : Nat} {E : Mem → Mem} {a1 : Int} {S : Mem} {r : Int} {S' : Mem} (hfl : g.2.2.2.2 = true) {rO : Int → Mem → Option (Int × Mem)} {dd : Nat} (hdd : 6 ≤ dd) (hE : Lens E PC) (hO : ∀ (a1 : Int) (S : Mem) (r : Int) (S1 : Mem), rO a1 S = some (r, S1) → Cn g B n yX4_readOperand cX4_readOperand 5 (some .boolean) dd [vR 13, vI (a1)] (E S) (QcI g B n r (E S1))) (h : g_X4_readOperand_B rO a1 S = some (r, S')) : Cn g B n yX4_readOperand cX4_readOperand 5 (some .boolean) (dd + 6) [vR 13, vI (a1)] (E S) (QcI g B n r (E S')) := by
  refine Cn.of (by decide +kernel) (Nat.le_of_ble_eq_true rfl) (fun X hg hnl hX hR => ?_)
  subst hg
  have hX : Ctx X cX4_readOperand "TelegramFeelings$Law" (dd + 6) := hX
  unfold g_X4_readOperand_B at h
  show JW X B n 0 0 0 [(0, vR 13), (1, vI (a1))] [] (E S) (QM X (QcI (gX X) B n r (E S')))
  refine j_aload_n hX 0 dX4_readOperand_0 rfl rfl ?_
  obtain ⟨x1, h1, h⟩ := bs h
  refine j_callVI hX mwX4_next miX4_next wd565 cbX4 ty13 hyX4_next (by omega) (by decide) ⟨Nat.zero_le _, Nat.zero_le _⟩ dX4_readOperand_1 (s_X4_next hfl hE h1) npX4_next rfl (Nat.le_of_ble_eq_true rfl) ?_
  refine j_istore_n (L' := [(2, vI (x1)), (0, vR 13), (1, vI (a1))]) hX dX4_readOperand_4 rfl hnl (by decide) rfl ?_
  refine j_iload_n hX 0 dX4_readOperand_5 rfl rfl ?_
  refine j_callSI hX mwX4_isDigit msX4_isDigit wd569 hyX4_isDigit (by omega) (by decide) ⟨Nat.zero_le _, Nat.zero_le _⟩ dX4_readOperand_6 (s_X4_isDigit hfl rfl) npX4_isDigit rfl (Nat.le_of_ble_eq_true rfl) ?_
  refine j_if_eq hX (tgt := 18) dX4_readOperand_9 (by decide) (fun hc => ?_) (fun hc => ?_)
  · rw [if_pos hc] at h
    refine j_iload_n hX 0 dX4_readOperand_18 rfl rfl ?_
    refine j_if_ge hX (tgt := 26) dX4_readOperand_19 (by decide) (fun hc => ?_) (fun hc => ?_)
    · rw [if_pos hc] at h
      refine j_ldcS hX rfl dX4_readOperand_26 (fun t9 hT9 => ?_)
      refine j_iload_n hX 0 dX4_readOperand_28 rfl rfl ?_
      refine j_i2c hX dX4_readOperand_29 ?_
      refine j_ixS hX hT9 wd580 (by omega) ⟨Nat.zero_le _, Nat.zero_le _⟩ dX4_readOperand_30 rfl ?_
      refine j_sub [1, 2, 0] rfl ?_
      exact sj_X4_readOperand_33 hdd hX hR hfl hnl hE hO  h
    · rw [if_neg hc] at h
      refine j_iconst hX dX4_readOperand_22 (rc rfl) ?_
      refine j_goto hX (tgt := 33) dX4_readOperand_23 (by decide) ?_
      refine j_sub [1, 2, 0] rfl ?_
      exact sj_X4_readOperand_33 hdd hX hR hfl hnl hE hO  h
  · rw [if_neg hc] at h
    refine j_aload_n hX 1 dX4_readOperand_12 rfl rfl ?_
    obtain ⟨S13, h1, h⟩ := bs h
    refine j_callVV hX mwX4_readNumber miX4_readNumber wd572 cbX4 ty13 hyX4_readNumber (by omega) (by decide) ⟨Nat.zero_le _, Nat.zero_le _⟩ dX4_readOperand_13 (s_X4_readNumber hfl hE h1) npX4_readNumber rfl (Nat.le_of_ble_eq_true rfl) ?_
    refine j_iconst hX dX4_readOperand_16 (rc rfl) ?_
    cases h
    exact j_zret hX hR (Or.inr rfl) dX4_readOperand_17
theorem s_X4_readOperand_R {g : G0} {B : Nat → Nat} {n : Nat} {E : Mem → Mem} (hfl : g.2.2.2.2 = true) (hE : Lens E PC) : ∀ (fu : Nat) (a1 : Int) (S : Mem) (r : Int) (S1 : Mem), g_X4_readOperand fu a1 S = some (r, S1) → Cn g B n yX4_readOperand cX4_readOperand 5 (some .boolean) (6 + 6 * fu) [vR 13, vI (a1)] (E S) (QcI g B n r (E S1)) := by
  intro fu
  induction fu with
  | zero => intro a1 S r S1 h; cases h
  | succ fu ih =>
    intro a1 S r S1 h
    exact s_X4_readOperand_B (dd := 6 + 6 * fu) hfl (by omega) hE ih h
theorem s_X4_readOperand {g : G0} {B : Nat → Nat} {n : Nat} {E : Mem → Mem} {a1 : Int} {S : Mem} {r : Int} {S' : Mem} (hfl : g.2.2.2.2 = true) (hE : Lens E PC) (h : g_X4_readOperand 9 a1 S = some (r, S')) : Cn g B n yX4_readOperand cX4_readOperand 5 (some .boolean) 60 [vR 13, vI (a1)] (E S) (QcI g B n r (E S')) := s_X4_readOperand_R hfl hE 9 _ _ _ _ h
theorem s_X4_readLine {g : G0} {B : Nat → Nat} {n : Nat} {E : Mem → Mem}  {S : Mem} {r : Int} {S' : Mem} (hfl : g.2.2.2.2 = true) (hE : Lens E PC) (h : g_X4_readLine S = some (r, S')) : Cn g B n yX4_readLine cX4_readLine 1 (some .boolean) 66 [vR 13] (E S) (QcI g B n r (E S')) := by
  refine Cn.of (by decide +kernel) (Nat.le_of_ble_eq_true rfl) (fun X hg hnl hX hR => ?_)
  subst hg
  have hX : Ctx X cX4_readLine "TelegramFeelings$Law" 66 := hX
  unfold g_X4_readLine at h
  show JW X B n 0 0 0 [(0, vR 13)] [] (E S) (QM X (QcI (gX X) B n r (E S')))
  refine j_aload_n hX 0 dX4_readLine_0 rfl rfl ?_
  refine j_iconst hX dX4_readLine_1 (rc rfl) ?_
  obtain ⟨x2, S1, h1, h⟩ := bd2_s h
  refine j_callVI hX mwX4_readEither miX4_readEither wd541 cbX4 ty13 hyX4_readEither (by omega) (by decide) ⟨Nat.zero_le _, Nat.zero_le _⟩ dX4_readLine_2 (s_X4_readEither (dd := 60) hfl (by decide) hE (s_X4_readOperand_R hfl hE 9) h1) npX4_readEither rfl (Nat.le_of_ble_eq_true rfl) ?_
  refine j_if_ne hX (tgt := 10) dX4_readLine_5 (by decide) (fun hc => ?_) (fun hc => ?_)
  · rw [if_neg hc] at h
    refine j_aload_n hX 0 dX4_readLine_10 rfl rfl ?_
    refine j_bipush hX dX4_readLine_11 (rc rfl) (by decide) ?_
    obtain ⟨x4, S3, h1, h⟩ := bd2_s h
    refine j_callVI hX mwX4_takes miX4_takes wd657 cbX4 ty13 hyX4_takes (by omega) (by decide) ⟨Nat.zero_le _, Nat.zero_le _⟩ dX4_readLine_13 (s_X4_takes hfl hE h1) npX4_takes rfl (Nat.le_of_ble_eq_true rfl) ?_
    refine j_if_eq hX (tgt := 35) dX4_readLine_16 (by decide) (fun hc => ?_) (fun hc => ?_)
    · rw [if_pos hc] at h
      refine j_aload_n hX 0 dX4_readLine_35 rfl rfl ?_
      refine j_bipush hX dX4_readLine_36 (rc rfl) (by decide) ?_
      obtain ⟨S5, h1, h⟩ := bs h
      refine j_callVV hX mwX4_emit miX4_emit wd576 cbX4 ty13 hyX4_emit (by omega) (by decide) ⟨Nat.zero_le _, Nat.zero_le _⟩ dX4_readLine_38 (s_X4_emit hfl hE h1) npX4_emit rfl (Nat.le_of_ble_eq_true rfl) ?_
      refine j_iconst hX dX4_readLine_41 (rc rfl) ?_
      cases h
      exact j_zret hX hR (Or.inr rfl) dX4_readLine_42
    · rw [if_neg hc] at h
      refine j_aload_n hX 0 dX4_readLine_19 rfl rfl ?_
      refine j_bipush hX dX4_readLine_20 (rc rfl) (by decide) ?_
      obtain ⟨S6, h1, h⟩ := bs h
      refine j_callVV hX mwX4_emit miX4_emit wd576 cbX4 ty13 hyX4_emit (by omega) (by decide) ⟨Nat.zero_le _, Nat.zero_le _⟩ dX4_readLine_22 (s_X4_emit hfl hE h1) npX4_emit rfl (Nat.le_of_ble_eq_true rfl) ?_
      refine j_aload_n hX 0 dX4_readLine_25 rfl rfl ?_
      refine j_iconst hX dX4_readLine_26 (rc rfl) ?_
      obtain ⟨x8, S7, h1, h⟩ := bd2_s h
      refine j_callVI hX mwX4_readEither miX4_readEither wd541 cbX4 ty13 hyX4_readEither (by omega) (by decide) ⟨Nat.zero_le _, Nat.zero_le _⟩ dX4_readLine_27 (s_X4_readEither (dd := 60) hfl (by decide) hE (s_X4_readOperand_R hfl hE 9) h1) npX4_readEither rfl (Nat.le_of_ble_eq_true rfl) ?_
      refine j_if_ne hX (tgt := 35) dX4_readLine_30 (by decide) (fun hc => ?_) (fun hc => ?_)
      · rw [if_neg hc] at h
        refine j_aload_n hX 0 dX4_readLine_35 rfl rfl ?_
        refine j_bipush hX dX4_readLine_36 (rc rfl) (by decide) ?_
        obtain ⟨S9, h1, h⟩ := bs h
        refine j_callVV hX mwX4_emit miX4_emit wd576 cbX4 ty13 hyX4_emit (by omega) (by decide) ⟨Nat.zero_le _, Nat.zero_le _⟩ dX4_readLine_38 (s_X4_emit hfl hE h1) npX4_emit rfl (Nat.le_of_ble_eq_true rfl) ?_
        refine j_iconst hX dX4_readLine_41 (rc rfl) ?_
        cases h
        exact j_zret hX hR (Or.inr rfl) dX4_readLine_42
      · rw [if_pos hc] at h
        refine j_iconst hX dX4_readLine_33 (rc rfl) ?_
        cases h
        exact j_zret hX hR (Or.inl rfl) dX4_readLine_34
  · rw [if_pos hc] at h
    refine j_iconst hX dX4_readLine_8 (rc rfl) ?_
    cases h
    exact j_zret hX hR (Or.inl rfl) dX4_readLine_9
theorem sl_X4_readText_12 {X : K0} {B : Nat → Nat} {n : Nat} {E : Mem → Mem} {r : Int} {S' : Mem} (hX : Ctx X cX4_readText "TelegramFeelings$Law" 67) (hR : CR X (some .boolean)) (hfl : (gX X).2.2.2.2 = true) (hnl : X.2.2.2.2.2.2.2.2.2.2.2.2.2.2 = 2) (hE : Lens E PC)    : ∀ (fu : Nat) (v1 : Int) (S : Mem), g_X4_readText_L12 fu v1 S = some (r, S') → JW X B n 0 0 12 [(0, vR 13), (1, vI (v1))] [] (E S) (QM X (QcI (gX X) B n r (E S'))) := by
  intro fu
  induction fu with
  | zero =>
    intro v1 S h
    rw [g_X4_readText_L12] at h
    cases h
  | succ fu ih =>
    intro v1 S h
    rw [g_X4_readText_L12] at h
    refine j_iload_n hX 1 dX4_readText_12 rfl rfl ?_
    refine j_bipush hX dX4_readText_13 (rc rfl) (by decide) ?_
    refine j_icmp_ge hX (tgt := 57) dX4_readText_15 (by decide) (fun hc => ?_) (fun hc => ?_)
    · rw [if_pos hc] at h
      refine j_iconst hX dX4_readText_57 (rc rfl) ?_
      cases h
      exact j_zret hX hR (Or.inl rfl) dX4_readText_58
    · rw [if_neg hc] at h
      refine j_aload_n hX 0 dX4_readText_18 rfl rfl ?_
      obtain ⟨x4, S3, h1, h⟩ := bd2_s h
      refine j_callVI hX mwX4_readLine miX4_readLine wd537 cbX4 ty13 hyX4_readLine (by omega) (by decide) ⟨Nat.zero_le _, Nat.zero_le _⟩ dX4_readText_19 (s_X4_readLine hfl hE h1) npX4_readLine rfl (Nat.le_of_ble_eq_true rfl) ?_
      refine j_if_ne hX (tgt := 27) dX4_readText_22 (by decide) (fun hc => ?_) (fun hc => ?_)
      · rw [if_neg hc] at h
        refine j_aload_n hX 0 dX4_readText_27 rfl rfl ?_
        refine j_getI (k := 7) hX hE cbX4 ty13 pc13 (by decide) rfl wd186 rfl dX4_readText_28 ?_
        refine j_aload_n hX 0 dX4_readText_31 rfl rfl ?_
        refine j_getI (k := 2) hX hE cbX4 ty13 pc13 (by decide) rfl wd180 rfl dX4_readText_32 ?_
        refine j_icmp_lt hX (tgt := 40) dX4_readText_35 (by decide) (fun hc => ?_) (fun hc => ?_)
        · rw [if_pos hc] at h
          refine j_aload_n hX 0 dX4_readText_40 rfl rfl ?_
          refine j_bipush hX dX4_readText_41 (rc rfl) (by decide) ?_
          obtain ⟨x6, S5, h1, h⟩ := bd2_s h
          refine j_callVI hX mwX4_takes miX4_takes wd657 cbX4 ty13 hyX4_takes (by omega) (by decide) ⟨Nat.zero_le _, Nat.zero_le _⟩ dX4_readText_43 (s_X4_takes hfl hE h1) npX4_takes rfl (Nat.le_of_ble_eq_true rfl) ?_
          refine j_if_ne hX (tgt := 51) dX4_readText_46 (by decide) (fun hc => ?_) (fun hc => ?_)
          · rw [if_neg hc] at h
            refine j_iinc (L' := [(1, vI (w32 (v1 + 1))), (0, vR 13)]) hX 1 dX4_readText_51 hnl (by decide) rfl rfl ?_
            refine j_goto hX (tgt := 12) dX4_readText_54 (by decide) ?_
            refine j_sub [1, 0] rfl ?_
            exact ih _ _ h
          · rw [if_pos hc] at h
            refine j_iconst hX dX4_readText_49 (rc rfl) ?_
            cases h
            exact j_zret hX hR (Or.inl rfl) dX4_readText_50
        · rw [if_neg hc] at h
          refine j_iconst hX dX4_readText_38 (rc rfl) ?_
          cases h
          exact j_zret hX hR (Or.inr rfl) dX4_readText_39
      · rw [if_pos hc] at h
        refine j_iconst hX dX4_readText_25 (rc rfl) ?_
        cases h
        exact j_zret hX hR (Or.inl rfl) dX4_readText_26
theorem s_X4_readText {g : G0} {B : Nat → Nat} {n : Nat} {E : Mem → Mem}  {S : Mem} {r : Int} {S' : Mem} (hfl : g.2.2.2.2 = true) (hE : Lens E PC) (h : g_X4_readText S = some (r, S')) : Cn g B n yX4_readText cX4_readText 2 (some .boolean) 67 [vR 13] (E S) (QcI g B n r (E S')) := by
  refine Cn.of (by decide +kernel) (Nat.le_of_ble_eq_true rfl) (fun X hg hnl hX hR => ?_)
  subst hg
  have hX : Ctx X cX4_readText "TelegramFeelings$Law" 67 := hX
  unfold g_X4_readText at h
  show JW X B n 0 0 0 [(0, vR 13)] [] (E S) (QM X (QcI (gX X) B n r (E S')))
  refine j_aload_n hX 0 dX4_readText_0 rfl rfl ?_
  refine j_iconst hX dX4_readText_1 (rc rfl) ?_
  refine j_putI (k := 7) hX hE cbX4 ty13 pc13 (by decide) rfl wd186 rfl (Or.inl rfl) rfl dX4_readText_2 ?_
  obtain ⟨S1, hx, h⟩ := ap_s h
  rw [← hx]
  clear hx
  refine j_aload_n hX 0 dX4_readText_5 rfl rfl ?_
  refine j_iconst hX dX4_readText_6 (rc rfl) ?_
  refine j_putI (k := 6) hX hE cbX4 ty13 pc13 (by decide) rfl wd185 rfl (Or.inl rfl) rfl dX4_readText_7 ?_
  obtain ⟨S2, hx, h⟩ := ap_s h
  rw [← hx]
  clear hx
  refine j_iconst hX dX4_readText_10 (rc rfl) ?_
  refine j_istore_n (L' := [(1, vI (0)), (0, vR 13)]) hX dX4_readText_11 rfl hnl (by decide) rfl ?_
  refine j_sub [1, 0] rfl ?_
  refine sl_X4_readText_12 hX hR hfl hnl hE  _ _ _ h
theorem sj_X4_adopt_20 {X : K0} {B : Nat → Nat} {n : Nat} {E : Mem → Mem} {r : Int} {S' : Mem} (hX : Ctx X cX4_adopt "TelegramFeelings$Law" 68) (hR : CR X (some .int)) (hfl : (gX X).2.2.2.2 = true) (hnl : X.2.2.2.2.2.2.2.2.2.2.2.2.2.2 = 4) (hE : Lens E PC)   {v1 : Int} {s0 : Int} {S : Mem} (h : g_X4_adopt_J20 v1 s0 S = some (r, S')) : JW X B n 0 0 20 [(0, vR 13), (1, vI (v1))] [vI (s0)] (E S) (QM X (QcI (gX X) B n r (E S'))) := by
  unfold g_X4_adopt_J20 at h
  refine j_istore_n (L' := [(2, vI (s0)), (0, vR 13), (1, vI (v1))]) hX dX4_adopt_20 rfl hnl (by decide) rfl ?_
  refine j_iload_n hX 2 dX4_adopt_21 rfl rfl ?_
  refine j_if_eq hX (tgt := 64) dX4_adopt_22 (by decide) (fun hc => ?_) (fun hc => ?_)
  · rw [if_pos hc] at h
    refine j_aload_n hX 1 dX4_adopt_64 rfl rfl ?_
    refine j_iconst hX dX4_adopt_65 (rc rfl) ?_
    refine j_putI (k := 2) hX hE cbX4 ty13 pc13 (by decide) rfl wd180 rfl (Or.inl rfl) rfl dX4_adopt_66 ?_
    obtain ⟨S3, hx, h⟩ := ap_s h
    rw [← hx]
    clear hx
    refine j_iload_n hX 0 dX4_adopt_69 rfl rfl ?_
    cases h
    exact j_iret hX hR dX4_adopt_70
  · rw [if_neg hc] at h
    refine j_aload_n hX 1 dX4_adopt_25 rfl rfl ?_
    obtain ⟨q4, hg, h⟩ := bs h
    refine j_getR (k := 3) hX hE cbX4 ty13 pc13 (by decide) rfl wd182 rfl hg dX4_adopt_26 ?_
    refine j_astore_n (L' := [(3, vR q4), (2, vI (s0)), (0, vR 13), (1, vI (v1))]) hX dX4_adopt_29 rfl hnl (by decide) rfl ?_
    refine j_aload_n hX 2 dX4_adopt_30 rfl rfl ?_
    refine j_aload_n hX 2 dX4_adopt_31 rfl rfl ?_
    obtain ⟨q5, hg, h⟩ := bs h
    refine j_getR (k := 5) hX hE cbX4 ty13 pc13 (by decide) rfl wd184 rfl hg dX4_adopt_32 ?_
    refine j_putR (k := 3) hX hE cbX4 ty13 pc13 (by decide) rfl wd182 rfl (fun _ => rfl) (fun _ => rfl) (fun _ => by decide +kernel) rfl dX4_adopt_35 ?_
    obtain ⟨S6, hx, h⟩ := ap_s h
    rw [← hx]
    clear hx
    refine j_aload_n hX 2 dX4_adopt_38 rfl rfl ?_
    refine j_aload_n hX 0 dX4_adopt_39 rfl rfl ?_
    refine j_putR (k := 5) hX hE cbX4 ty13 pc13 (by decide) rfl wd184 rfl (fun _ => rfl) (fun _ => rfl) (fun _ => by decide +kernel) rfl dX4_adopt_40 ?_
    obtain ⟨S7, hx, h⟩ := ap_s h
    rw [← hx]
    clear hx
    refine j_aload_n hX 2 dX4_adopt_43 rfl rfl ?_
    refine j_aload_n hX 2 dX4_adopt_44 rfl rfl ?_
    refine j_getI (k := 6) hX hE cbX4 ty13 pc13 (by decide) rfl wd185 rfl dX4_adopt_45 ?_
    refine j_putI (k := 4) hX hE cbX4 ty13 pc13 (by decide) rfl wd183 rfl (Or.inl rfl) rfl dX4_adopt_48 ?_
    obtain ⟨S8, hx, h⟩ := ap_s h
    rw [← hx]
    clear hx
    refine j_aload_n hX 2 dX4_adopt_51 rfl rfl ?_
    refine j_getS (k := 0) hX hfl cbX4 ty13 (by decide) rfl wd178 rfl sb13_0 dX4_adopt_52 ?_
    refine j_dup hX dX4_adopt_55 rfl ?_
    refine j_getI (k := 3) hX hE cbX5 ty1 pc1 (by decide) rfl wd148 rfl dX4_adopt_56 ?_
    refine j_iconst hX dX4_adopt_59 (rc rfl) ?_
    refine j_iadd hX dX4_adopt_60 ?_
    refine j_putI (k := 3) hX hE cbX5 ty1 pc1 (by decide) rfl wd148 rfl (Or.inl rfl) rfl dX4_adopt_61 ?_
    obtain ⟨S9, hx, h⟩ := ap_s h
    rw [← hx]
    clear hx
    refine j_aload_n hX 2 dX4_adopt_64 rfl rfl ?_
    refine j_iconst hX dX4_adopt_65 (rc rfl) ?_
    refine j_putI (k := 2) hX hE cbX4 ty13 pc13 (by decide) rfl wd180 rfl (Or.inl rfl) rfl dX4_adopt_66 ?_
    obtain ⟨S10, hx, h⟩ := ap_s h
    rw [← hx]
    clear hx
    refine j_iload_n hX 1 dX4_adopt_69 rfl rfl ?_
    cases h
    exact j_iret hX hR dX4_adopt_70
theorem s_X4_adopt {g : G0} {B : Nat → Nat} {n : Nat} {E : Mem → Mem}  {S : Mem} {r : Int} {S' : Mem} (hfl : g.2.2.2.2 = true) (hE : Lens E PC) (h : g_X4_adopt S = some (r, S')) : Cn g B n yX4_adopt cX4_adopt 4 (some .int) 68 [vR 13] (E S) (QcI g B n r (E S')) := by
  refine Cn.of (by decide +kernel) (Nat.le_of_ble_eq_true rfl) (fun X hg hnl hX hR => ?_)
  subst hg
  have hX : Ctx X cX4_adopt "TelegramFeelings$Law" 68 := hX
  unfold g_X4_adopt at h
  show JW X B n 0 0 0 [(0, vR 13)] [] (E S) (QM X (QcI (gX X) B n r (E S')))
  refine j_aload_n hX 0 dX4_adopt_0 rfl rfl ?_
  obtain ⟨x2, S1, h1, h⟩ := bd2_s h
  refine j_callVI hX mwX4_readText miX4_readText wd533 cbX4 ty13 hyX4_readText (by omega) (by decide) ⟨Nat.zero_le _, Nat.zero_le _⟩ dX4_adopt_1 (s_X4_readText hfl hE h1) npX4_readText rfl (Nat.le_of_ble_eq_true rfl) ?_
  refine j_istore_n (L' := [(1, vI (x2)), (0, vR 13)]) hX dX4_adopt_4 rfl hnl (by decide) rfl ?_
  refine j_iload_n hX 0 dX4_adopt_5 rfl rfl ?_
  refine j_if_eq hX (tgt := 13) dX4_adopt_6 (by decide) (fun hc => ?_) (fun hc => ?_)
  · rw [if_pos hc] at h
    refine j_bipush hX dX4_adopt_13 (rc rfl) (by decide) ?_
    refine j_aload_n hX 1 dX4_adopt_15 rfl rfl ?_
    refine j_getI (k := 7) hX hE cbX4 ty13 pc13 (by decide) rfl wd186 rfl dX4_adopt_16 ?_
    refine j_isub hX dX4_adopt_19 ?_
    refine j_sub [1, 0] rfl ?_
    exact sj_X4_adopt_20 hX hR hfl hnl hE  h
  · rw [if_neg hc] at h
    refine j_iconst hX dX4_adopt_9 (rc rfl) ?_
    refine j_goto hX (tgt := 20) dX4_adopt_10 (by decide) ?_
    refine j_sub [1, 0] rfl ?_
    exact sj_X4_adopt_20 hX hR hfl hnl hE  h
theorem s_X4_pop {g : G0} {B : Nat → Nat} {n : Nat} {E : Mem → Mem}  {S : Mem} {r : Int} {S' : Mem} (hfl : g.2.2.2.2 = true) (hE : Lens E PC) (h : g_X4_pop S = some (r, S')) : Cn g B n yX4_pop cX4_pop 1 (some .int) 1 [vR 13] (E S) (QcI g B n r (E S')) := by
  refine Cn.of (by decide +kernel) (Nat.le_of_ble_eq_true rfl) (fun X hg hnl hX hR => ?_)
  subst hg
  have hX : Ctx X cX4_pop "TelegramFeelings$Law" 1 := hX
  unfold g_X4_pop at h
  show JW X B n 0 0 0 [(0, vR 13)] [] (E S) (QM X (QcI (gX X) B n r (E S')))
  refine j_aload_n hX 0 dX4_pop_0 rfl rfl ?_
  refine j_getI (k := 10) hX hE cbX4 ty13 pc13 (by decide) rfl wd189 rfl dX4_pop_1 ?_
  refine j_if_le hX (tgt := 38) dX4_pop_4 (by decide) (fun hc => ?_) (fun hc => ?_)
  · rw [if_pos hc] at h
    refine j_iconst hX dX4_pop_38 (rc rfl) ?_
    cases h
    exact j_iret hX hR dX4_pop_39
  · rw [if_neg hc] at h
    refine j_aload_n hX 0 dX4_pop_7 rfl rfl ?_
    refine j_getI (k := 10) hX hE cbX4 ty13 pc13 (by decide) rfl wd189 rfl dX4_pop_8 ?_
    refine j_aload_n hX 0 dX4_pop_11 rfl rfl ?_
    refine j_getS (k := 9) hX hfl cbX4 ty13 (by decide) rfl wd188 rfl sb13_9 dX4_pop_12 ?_
    refine j_alen (z := 121) hX ty18 (by decide) (Or.inl rfl) rfl dX4_pop_15 ?_
    refine j_icmp_gt hX (tgt := 38) dX4_pop_16 (by decide) (fun hc => ?_) (fun hc => ?_)
    · rw [if_pos hc] at h
      refine j_iconst hX dX4_pop_38 (rc rfl) ?_
      cases h
      exact j_iret hX hR dX4_pop_39
    · rw [if_neg hc] at h
      refine j_aload_n hX 0 dX4_pop_19 rfl rfl ?_
      refine j_getS (k := 9) hX hfl cbX4 ty13 (by decide) rfl wd188 rfl sb13_9 dX4_pop_20 ?_
      refine j_aload_n hX 0 dX4_pop_23 rfl rfl ?_
      refine j_dup hX dX4_pop_24 rfl ?_
      refine j_getI (k := 10) hX hE cbX4 ty13 pc13 (by decide) rfl wd189 rfl dX4_pop_25 ?_
      refine j_iconst hX dX4_pop_28 (rc rfl) ?_
      refine j_isub hX dX4_pop_29 ?_
      refine j_dup_x1 hX dX4_pop_30 rfl rfl ?_
      refine j_putI (k := 10) hX hE cbX4 ty13 pc13 (by decide) rfl wd189 rfl (Or.inl rfl) rfl dX4_pop_31 ?_
      obtain ⟨S1, hx, h⟩ := ap_s h
      rw [← hx]
      clear hx
      obtain ⟨x2, hv, h⟩ := bs h
      refine j_iald hX hE ty18 pc18 hv dX4_pop_34 ?_
      refine j_goto hX (tgt := 39) dX4_pop_35 (by decide) ?_
      cases h
      exact j_iret hX hR dX4_pop_39
theorem s_X4_push {g : G0} {B : Nat → Nat} {n : Nat} {E : Mem → Mem} {a1 : Int} {S : Mem} {S' : Mem} (hfl : g.2.2.2.2 = true) (hE : Lens E PC) (h : g_X4_push a1 S = some S') : Cn g B n yX4_push cX4_push 2 none 1 [vR 13, vI (a1)] (E S) (QcV g B n (E S')) := by
  refine Cn.of (by decide +kernel) (Nat.le_of_ble_eq_true rfl) (fun X hg hnl hX hR => ?_)
  subst hg
  have hX : Ctx X cX4_push "TelegramFeelings$Law" 1 := hX
  unfold g_X4_push at h
  show JW X B n 0 0 0 [(0, vR 13), (1, vI (a1))] [] (E S) (QM X (QcV (gX X) B n (E S')))
  refine j_aload_n hX 0 dX4_push_0 rfl rfl ?_
  refine j_getI (k := 10) hX hE cbX4 ty13 pc13 (by decide) rfl wd189 rfl dX4_push_1 ?_
  refine j_if_lt hX (tgt := 36) dX4_push_4 (by decide) (fun hc => ?_) (fun hc => ?_)
  · rw [if_pos hc] at h
    cases h
    exact j_vret hX hR dX4_push_36
  · rw [if_neg hc] at h
    refine j_aload_n hX 0 dX4_push_7 rfl rfl ?_
    refine j_getI (k := 10) hX hE cbX4 ty13 pc13 (by decide) rfl wd189 rfl dX4_push_8 ?_
    refine j_aload_n hX 0 dX4_push_11 rfl rfl ?_
    refine j_getS (k := 9) hX hfl cbX4 ty13 (by decide) rfl wd188 rfl sb13_9 dX4_push_12 ?_
    refine j_alen (z := 121) hX ty18 (by decide) (Or.inl rfl) rfl dX4_push_15 ?_
    refine j_icmp_ge hX (tgt := 36) dX4_push_16 (by decide) (fun hc => ?_) (fun hc => ?_)
    · rw [if_pos hc] at h
      cases h
      exact j_vret hX hR dX4_push_36
    · rw [if_neg hc] at h
      refine j_aload_n hX 0 dX4_push_19 rfl rfl ?_
      refine j_getS (k := 9) hX hfl cbX4 ty13 (by decide) rfl wd188 rfl sb13_9 dX4_push_20 ?_
      refine j_aload_n hX 0 dX4_push_23 rfl rfl ?_
      refine j_dup hX dX4_push_24 rfl ?_
      refine j_getI (k := 10) hX hE cbX4 ty13 pc13 (by decide) rfl wd189 rfl dX4_push_25 ?_
      refine j_dup_x1 hX dX4_push_28 rfl rfl ?_
      refine j_iconst hX dX4_push_29 (rc rfl) ?_
      refine j_iadd hX dX4_push_30 ?_
      refine j_putI (k := 10) hX hE cbX4 ty13 pc13 (by decide) rfl wd189 rfl (Or.inl rfl) rfl dX4_push_31 ?_
      obtain ⟨S1, hx, h⟩ := ap_s h
      rw [← hx]
      clear hx
      refine j_iload_n hX 1 dX4_push_34 rfl rfl ?_
      obtain ⟨S2, hv, h⟩ := bs h
      refine j_iast hX hE ty18 pc18 hv dX4_push_35 ?_
      cases h
      exact j_vret hX hR dX4_push_36
theorem s_X4_workedOut {g : G0} {B : Nat → Nat} {n : Nat} {M : Mem} {a1 : Int} {a2 : Int} {a3 : Int} {r : Int} (hfl : g.2.2.2.2 = true) (h : g_X4_workedOut a1 a2 a3 = some r) : Cn g B n yX4_workedOut cX4_workedOut 3 (some .int) 1 [vI (a1), vI (a2), vI (a3)] M (QcI g B n r M) := by
  refine Cn.of (by decide +kernel) (Nat.le_of_ble_eq_true rfl) (fun X hg hnl hX hR => ?_)
  subst hg
  have hX : Ctx X cX4_workedOut "TelegramFeelings$Law" 1 := hX
  unfold g_X4_workedOut at h
  show JW X B n 0 0 0 [(0, vI (a1)), (1, vI (a2)), (2, vI (a3))] [] (M) (QM X (QcI (gX X) B n r M))
  refine j_iload_n hX 0 dX4_workedOut_0 rfl rfl ?_
  by_cases hc0 : a1 = 37
  · rw [if_pos hc0] at h
    refine j_lsw (off := 176) hX (tgt := 177) dX4_workedOut_1 (by decide) (by rw [hc0]; decide) (by decide) ?_
    refine j_iload_n hX 2 dX4_workedOut_177 rfl rfl ?_
    refine j_if_ne hX (tgt := 185) dX4_workedOut_178 (by decide) (fun hc => ?_) (fun hc => ?_)
    · rw [if_neg hc] at h
      refine j_iload_n hX 1 dX4_workedOut_185 rfl rfl ?_
      refine j_iload_n hX 2 dX4_workedOut_186 rfl rfl ?_
      obtain ⟨hz, h⟩ := chk_s h
      refine j_irem hX dX4_workedOut_187 hz ?_
      cases h
      exact j_iret hX hR dX4_workedOut_188
    · rw [if_pos hc] at h
      refine j_iconst hX dX4_workedOut_181 (rc rfl) ?_
      refine j_goto hX (tgt := 188) dX4_workedOut_182 (by decide) ?_
      cases h
      exact j_iret hX hR dX4_workedOut_188
  · rw [if_neg hc0] at h
    by_cases hc1 : a1 = 38
    · rw [if_pos hc1] at h
      refine j_lsw (off := 105) hX (tgt := 106) dX4_workedOut_1 (by decide) (by rw [hc1]; decide) (by decide) ?_
      refine j_iload_n hX 1 dX4_workedOut_106 rfl rfl ?_
      refine j_if_eq hX (tgt := 118) dX4_workedOut_107 (by decide) (fun hc => ?_) (fun hc => ?_)
      · rw [if_pos hc] at h
        refine j_iconst hX dX4_workedOut_118 (rc rfl) ?_
        cases h
        exact j_iret hX hR dX4_workedOut_119
      · rw [if_neg hc] at h
        refine j_iload_n hX 2 dX4_workedOut_110 rfl rfl ?_
        refine j_if_eq hX (tgt := 118) dX4_workedOut_111 (by decide) (fun hc => ?_) (fun hc => ?_)
        · rw [if_pos hc] at h
          refine j_iconst hX dX4_workedOut_118 (rc rfl) ?_
          cases h
          exact j_iret hX hR dX4_workedOut_119
        · rw [if_neg hc] at h
          refine j_iconst hX dX4_workedOut_114 (rc rfl) ?_
          refine j_goto hX (tgt := 119) dX4_workedOut_115 (by decide) ?_
          cases h
          exact j_iret hX hR dX4_workedOut_119
    · rw [if_neg hc1] at h
      by_cases hc2 : a1 = 42
      · rw [if_pos hc2] at h
        refine j_lsw (off := 160) hX (tgt := 161) dX4_workedOut_1 (by decide) (by rw [hc2]; decide) (by decide) ?_
        refine j_iload_n hX 1 dX4_workedOut_161 rfl rfl ?_
        refine j_iload_n hX 2 dX4_workedOut_162 rfl rfl ?_
        refine j_imul hX dX4_workedOut_163 ?_
        cases h
        exact j_iret hX hR dX4_workedOut_164
      · rw [if_neg hc2] at h
        by_cases hc3 : a1 = 43
        · rw [if_pos hc3] at h
          refine j_lsw (off := 152) hX (tgt := 153) dX4_workedOut_1 (by decide) (by rw [hc3]; decide) (by decide) ?_
          refine j_iload_n hX 1 dX4_workedOut_153 rfl rfl ?_
          refine j_iload_n hX 2 dX4_workedOut_154 rfl rfl ?_
          refine j_iadd hX dX4_workedOut_155 ?_
          cases h
          exact j_iret hX hR dX4_workedOut_156
        · rw [if_neg hc3] at h
          by_cases hc4 : a1 = 45
          · rw [if_pos hc4] at h
            refine j_lsw (off := 156) hX (tgt := 157) dX4_workedOut_1 (by decide) (by rw [hc4]; decide) (by decide) ?_
            refine j_iload_n hX 1 dX4_workedOut_157 rfl rfl ?_
            refine j_iload_n hX 2 dX4_workedOut_158 rfl rfl ?_
            refine j_isub hX dX4_workedOut_159 ?_
            cases h
            exact j_iret hX hR dX4_workedOut_160
          · rw [if_neg hc4] at h
            by_cases hc5 : a1 = 47
            · rw [if_pos hc5] at h
              refine j_lsw (off := 164) hX (tgt := 165) dX4_workedOut_1 (by decide) (by rw [hc5]; decide) (by decide) ?_
              refine j_iload_n hX 2 dX4_workedOut_165 rfl rfl ?_
              refine j_if_ne hX (tgt := 173) dX4_workedOut_166 (by decide) (fun hc => ?_) (fun hc => ?_)
              · rw [if_neg hc] at h
                refine j_iload_n hX 1 dX4_workedOut_173 rfl rfl ?_
                refine j_iload_n hX 2 dX4_workedOut_174 rfl rfl ?_
                obtain ⟨hz, h⟩ := chk_s h
                refine j_idiv hX dX4_workedOut_175 hz ?_
                cases h
                exact j_iret hX hR dX4_workedOut_176
              · rw [if_pos hc] at h
                refine j_iconst hX dX4_workedOut_169 (rc rfl) ?_
                refine j_goto hX (tgt := 176) dX4_workedOut_170 (by decide) ?_
                cases h
                exact j_iret hX hR dX4_workedOut_176
            · rw [if_neg hc5] at h
              by_cases hc6 : a1 = 60
              · rw [if_pos hc6] at h
                refine j_lsw (off := 119) hX (tgt := 120) dX4_workedOut_1 (by decide) (by rw [hc6]; decide) (by decide) ?_
                refine j_iload_n hX 1 dX4_workedOut_120 rfl rfl ?_
                refine j_iload_n hX 2 dX4_workedOut_121 rfl rfl ?_
                refine j_icmp_ge hX (tgt := 129) dX4_workedOut_122 (by decide) (fun hc => ?_) (fun hc => ?_)
                · rw [if_pos hc] at h
                  refine j_iconst hX dX4_workedOut_129 (rc rfl) ?_
                  cases h
                  exact j_iret hX hR dX4_workedOut_130
                · rw [if_neg hc] at h
                  refine j_iconst hX dX4_workedOut_125 (rc rfl) ?_
                  refine j_goto hX (tgt := 130) dX4_workedOut_126 (by decide) ?_
                  cases h
                  exact j_iret hX hR dX4_workedOut_130
              · rw [if_neg hc6] at h
                by_cases hc7 : a1 = 61
                · rw [if_pos hc7] at h
                  refine j_lsw (off := 130) hX (tgt := 131) dX4_workedOut_1 (by decide) (by rw [hc7]; decide) (by decide) ?_
                  refine j_iload_n hX 1 dX4_workedOut_131 rfl rfl ?_
                  refine j_iload_n hX 2 dX4_workedOut_132 rfl rfl ?_
                  refine j_icmp_ne hX (tgt := 140) dX4_workedOut_133 (by decide) (fun hc => ?_) (fun hc => ?_)
                  · rw [if_neg hc] at h
                    refine j_iconst hX dX4_workedOut_140 (rc rfl) ?_
                    cases h
                    exact j_iret hX hR dX4_workedOut_141
                  · rw [if_pos hc] at h
                    refine j_iconst hX dX4_workedOut_136 (rc rfl) ?_
                    refine j_goto hX (tgt := 141) dX4_workedOut_137 (by decide) ?_
                    cases h
                    exact j_iret hX hR dX4_workedOut_141
                · rw [if_neg hc7] at h
                  by_cases hc8 : a1 = 62
                  · rw [if_pos hc8] at h
                    refine j_lsw (off := 141) hX (tgt := 142) dX4_workedOut_1 (by decide) (by rw [hc8]; decide) (by decide) ?_
                    refine j_iload_n hX 1 dX4_workedOut_142 rfl rfl ?_
                    refine j_iload_n hX 2 dX4_workedOut_143 rfl rfl ?_
                    refine j_icmp_le hX (tgt := 151) dX4_workedOut_144 (by decide) (fun hc => ?_) (fun hc => ?_)
                    · rw [if_pos hc] at h
                      refine j_iconst hX dX4_workedOut_151 (rc rfl) ?_
                      cases h
                      exact j_iret hX hR dX4_workedOut_152
                    · rw [if_neg hc] at h
                      refine j_iconst hX dX4_workedOut_147 (rc rfl) ?_
                      refine j_goto hX (tgt := 152) dX4_workedOut_148 (by decide) ?_
                      cases h
                      exact j_iret hX hR dX4_workedOut_152
                  · rw [if_neg hc8] at h
                    by_cases hc9 : a1 = 124
                    · rw [if_pos hc9] at h
                      refine j_lsw (off := 91) hX (tgt := 92) dX4_workedOut_1 (by decide) (by rw [hc9]; decide) (by decide) ?_
                      refine j_iload_n hX 1 dX4_workedOut_92 rfl rfl ?_
                      refine j_if_ne hX (tgt := 100) dX4_workedOut_93 (by decide) (fun hc => ?_) (fun hc => ?_)
                      · rw [if_neg hc] at h
                        refine j_iconst hX dX4_workedOut_100 (rc rfl) ?_
                        refine j_goto hX (tgt := 105) dX4_workedOut_101 (by decide) ?_
                        cases h
                        exact j_iret hX hR dX4_workedOut_105
                      · rw [if_pos hc] at h
                        refine j_iload_n hX 2 dX4_workedOut_96 rfl rfl ?_
                        refine j_if_eq hX (tgt := 104) dX4_workedOut_97 (by decide) (fun hc => ?_) (fun hc => ?_)
                        · rw [if_pos hc] at h
                          refine j_iconst hX dX4_workedOut_104 (rc rfl) ?_
                          cases h
                          exact j_iret hX hR dX4_workedOut_105
                        · rw [if_neg hc] at h
                          refine j_iconst hX dX4_workedOut_100 (rc rfl) ?_
                          refine j_goto hX (tgt := 105) dX4_workedOut_101 (by decide) ?_
                          cases h
                          exact j_iret hX hR dX4_workedOut_105
                    · rw [if_neg hc9] at h
                      refine j_lsw (off := 188) hX (tgt := 189) dX4_workedOut_1 (by decide) (lk_none (by simp [hc0, Ne.symm hc0, hc1, Ne.symm hc1, hc2, Ne.symm hc2, hc3, Ne.symm hc3, hc4, Ne.symm hc4, hc5, Ne.symm hc5, hc6, Ne.symm hc6, hc7, Ne.symm hc7, hc8, Ne.symm hc8, hc9, Ne.symm hc9])) (by decide) ?_
                      refine j_iconst hX dX4_workedOut_189 (rc rfl) ?_
                      cases h
                      exact j_iret hX hR dX4_workedOut_190
theorem sl_X4_worked_9 {X : K0} {B : Nat → Nat} {n : Nat} {E : Mem → Mem} {r : Int} {S' : Mem} (hX : Ctx X cX4_worked "TelegramFeelings$Law" 2) (hR : CR X (some .int)) (hfl : (gX X).2.2.2.2 = true) (hnl : X.2.2.2.2.2.2.2.2.2.2.2.2.2.2 = 5) (hE : Lens E PC)    : ∀ (fu : Nat) (v1 : Int) (v2 : Int) (S : Mem), g_X4_worked_L9 fu v1 v2 S = some (r, S') → JW X B n 0 0 9 [(0, vR 13), (1, vI (v1)), (2, vI (v2))] [] (E S) (QM X (QcI (gX X) B n r (E S'))) := by
  intro fu
  induction fu with
  | zero =>
    intro v1 v2 S h
    rw [g_X4_worked_L9] at h
    cases h
  | succ fu ih =>
    intro v1 v2 S h
    rw [g_X4_worked_L9] at h
    refine j_iload_n hX 2 dX4_worked_9 rfl rfl ?_
    refine j_aload_n hX 0 dX4_worked_10 rfl rfl ?_
    refine j_getI (k := 4) hX hE cbX4 ty13 pc13 (by decide) rfl wd183 rfl dX4_worked_11 ?_
    refine j_icmp_ge hX (tgt := 186) dX4_worked_14 (by decide) (fun hc => ?_) (fun hc => ?_)
    · rw [if_pos hc] at h
      refine j_iconst hX dX4_worked_186 (rc rfl) ?_
      cases h
      exact j_iret hX hR dX4_worked_187
    · rw [if_neg hc] at h
      refine j_iload_n hX 2 dX4_worked_17 rfl rfl ?_
      refine j_aload_n hX 0 dX4_worked_18 rfl rfl ?_
      obtain ⟨q2, hg, h⟩ := bs h
      refine j_getR (k := 3) hX hE cbX4 ty13 pc13 (by decide) rfl wd182 rfl hg dX4_worked_19 ?_
      obtain ⟨x3, hv, h⟩ := bs h
      refine j_alenD hX (Or.inl rfl) hv dX4_worked_22 ?_
      refine j_icmp_ge hX (tgt := 186) dX4_worked_23 (by decide) (fun hc => ?_) (fun hc => ?_)
      · rw [if_pos hc] at h
        refine j_iconst hX dX4_worked_186 (rc rfl) ?_
        cases h
        exact j_iret hX hR dX4_worked_187
      · rw [if_neg hc] at h
        refine j_aload_n hX 0 dX4_worked_26 rfl rfl ?_
        obtain ⟨q4, hg, h⟩ := bs h
        refine j_getR (k := 3) hX hE cbX4 ty13 pc13 (by decide) rfl wd182 rfl hg dX4_worked_27 ?_
        refine j_iload_n hX 2 dX4_worked_30 rfl rfl ?_
        obtain ⟨x5, hv, h⟩ := bs h
        refine j_ialdD hX hE (fun _ h => h) hv dX4_worked_31 ?_
        refine j_istore_n (L' := [(3, vI (x5)), (0, vR 13), (1, vI (v1)), (2, vI (v2))]) hX dX4_worked_32 rfl hnl (by decide) rfl ?_
        refine j_iload_n hX 0 dX4_worked_33 rfl rfl ?_
        refine j_if_lt hX (tgt := 45) dX4_worked_34 (by decide) (fun hc => ?_) (fun hc => ?_)
        · rw [if_pos hc] at h
          refine j_iload_n hX 0 dX4_worked_45 rfl rfl ?_
          refine j_aload_n hX 1 dX4_worked_46 rfl rfl ?_
          refine j_getS (k := 8) hX hfl cbX4 ty13 (by decide) rfl wd187 rfl sb13_8 dX4_worked_47 ?_
          refine j_alen (z := 6) hX ty17 (by decide) (Or.inl rfl) rfl dX4_worked_50 ?_
          refine j_ineg hX dX4_worked_51 ?_
          refine j_icmp_lt hX (tgt := 70) dX4_worked_52 (by decide) (fun hc => ?_) (fun hc => ?_)
          · rw [if_pos hc] at h
            refine j_iload_n hX 0 dX4_worked_70 rfl rfl ?_
            refine j_bipush hX dX4_worked_71 (rc rfl) (by decide) ?_
            refine j_icmp_ne hX (tgt := 92) dX4_worked_73 (by decide) (fun hc => ?_) (fun hc => ?_)
            · rw [if_neg hc] at h
              refine j_iload_n hX 0 dX4_worked_92 rfl rfl ?_
              refine j_bipush hX dX4_worked_93 (rc rfl) (by decide) ?_
              refine j_icmp_ne hX (tgt := 116) dX4_worked_95 (by decide) (fun hc => ?_) (fun hc => ?_)
              · rw [if_neg hc] at h
                refine j_iload_n hX 0 dX4_worked_116 rfl rfl ?_
                refine j_bipush hX dX4_worked_117 (rc rfl) (by decide) ?_
                refine j_icmp_ne hX (tgt := 141) dX4_worked_119 (by decide) (fun hc => ?_) (fun hc => ?_)
                · rw [if_neg hc] at h
                  refine j_iload_n hX 0 dX4_worked_141 rfl rfl ?_
                  refine j_bipush hX dX4_worked_142 (rc rfl) (by decide) ?_
                  refine j_icmp_ne hX (tgt := 159) dX4_worked_144 (by decide) (fun hc => ?_) (fun hc => ?_)
                  · rw [if_neg hc] at h
                    refine j_aload_n hX 1 dX4_worked_159 rfl rfl ?_
                    obtain ⟨x7, S6, h1, h⟩ := bd2_s h
                    refine j_callVI hX mwX4_pop miX4_pop wd678 cbX4 ty13 hyX4_pop (by omega) (by decide) ⟨Nat.zero_le _, Nat.zero_le _⟩ dX4_worked_160 (s_X4_pop hfl hE h1) npX4_pop rfl (Nat.le_of_ble_eq_true rfl) ?_
                    refine j_istore (L' := [(4, vI (x7)), (3, vI (x5)), (0, vR 13), (1, vI (v1)), (2, vI (v2))]) hX dX4_worked_163 hnl (by decide) rfl ?_
                    refine j_aload_n hX 2 dX4_worked_165 rfl rfl ?_
                    refine j_iload_n hX 1 dX4_worked_166 rfl rfl ?_
                    refine j_ineg hX dX4_worked_167 ?_
                    refine j_aload_n hX 2 dX4_worked_168 rfl rfl ?_
                    obtain ⟨x9, S8, h1, h⟩ := bd2_s h
                    refine j_callVI hX mwX4_pop miX4_pop wd678 cbX4 ty13 hyX4_pop (by omega) (by decide) ⟨Nat.zero_le _, Nat.zero_le _⟩ dX4_worked_169 (s_X4_pop hfl hE h1) npX4_pop rfl (Nat.le_of_ble_eq_true rfl) ?_
                    refine j_iload hX 0 dX4_worked_172 rfl ?_
                    obtain ⟨x10, h1, h⟩ := bs h
                    refine j_callSI hX mwX4_workedOut msX4_workedOut wd682 hyX4_workedOut (by omega) (by decide) ⟨Nat.zero_le _, Nat.zero_le _⟩ dX4_worked_174 (s_X4_workedOut hfl h1) npX4_workedOut rfl (Nat.le_of_ble_eq_true rfl) ?_
                    obtain ⟨S11, h1, h⟩ := bs h
                    refine j_callVV hX mwX4_push miX4_push wd674 cbX4 ty13 hyX4_push (by omega) (by decide) ⟨Nat.zero_le _, Nat.zero_le _⟩ dX4_worked_177 (s_X4_push hfl hE h1) npX4_push rfl (Nat.le_of_ble_eq_true rfl) ?_
                    refine j_iinc (L' := [(2, vI (w32 (v2 + 1))), (4, vI (x7)), (3, vI (x5)), (0, vR 13), (1, vI (v1))]) hX 4 dX4_worked_180 hnl (by decide) rfl rfl ?_
                    refine j_goto hX (tgt := 9) dX4_worked_183 (by decide) ?_
                    refine j_sub [3, 4, 0] rfl ?_
                    exact ih _ _ _ h
                  · rw [if_pos hc] at h
                    refine j_aload_n hX 1 dX4_worked_147 rfl rfl ?_
                    refine j_aload_n hX 1 dX4_worked_148 rfl rfl ?_
                    obtain ⟨x13, S12, h1, h⟩ := bd2_s h
                    refine j_callVI hX mwX4_pop miX4_pop wd678 cbX4 ty13 hyX4_pop (by omega) (by decide) ⟨Nat.zero_le _, Nat.zero_le _⟩ dX4_worked_149 (s_X4_pop hfl hE h1) npX4_pop rfl (Nat.le_of_ble_eq_true rfl) ?_
                    refine j_ineg hX dX4_worked_152 ?_
                    obtain ⟨S14, h1, h⟩ := bs h
                    refine j_callVV hX mwX4_push miX4_push wd674 cbX4 ty13 hyX4_push (by omega) (by decide) ⟨Nat.zero_le _, Nat.zero_le _⟩ dX4_worked_153 (s_X4_push hfl hE h1) npX4_push rfl (Nat.le_of_ble_eq_true rfl) ?_
                    refine j_goto hX (tgt := 180) dX4_worked_156 (by decide) ?_
                    refine j_iinc (L' := [(2, vI (w32 (v2 + 1))), (3, vI (x5)), (0, vR 13), (1, vI (v1))]) hX 3 dX4_worked_180 hnl (by decide) rfl rfl ?_
                    refine j_goto hX (tgt := 9) dX4_worked_183 (by decide) ?_
                    refine j_sub [2, 3, 0] rfl ?_
                    exact ih _ _ _ h
                · rw [if_pos hc] at h
                  refine j_aload_n hX 1 dX4_worked_122 rfl rfl ?_
                  refine j_aload_n hX 1 dX4_worked_123 rfl rfl ?_
                  obtain ⟨x16, S15, h1, h⟩ := bd2_s h
                  refine j_callVI hX mwX4_pop miX4_pop wd678 cbX4 ty13 hyX4_pop (by omega) (by decide) ⟨Nat.zero_le _, Nat.zero_le _⟩ dX4_worked_124 (s_X4_pop hfl hE h1) npX4_pop rfl (Nat.le_of_ble_eq_true rfl) ?_
                  refine j_if_ne hX (tgt := 134) dX4_worked_127 (by decide) (fun hc => ?_) (fun hc => ?_)
                  · rw [if_neg hc] at h
                    refine j_iconst hX dX4_worked_134 (rc rfl) ?_
                    obtain ⟨S17, h1, h⟩ := bs h
                    refine j_callVV hX mwX4_push miX4_push wd674 cbX4 ty13 hyX4_push (by omega) (by decide) ⟨Nat.zero_le _, Nat.zero_le _⟩ dX4_worked_135 (s_X4_push hfl hE h1) npX4_push rfl (Nat.le_of_ble_eq_true rfl) ?_
                    refine j_goto hX (tgt := 180) dX4_worked_138 (by decide) ?_
                    refine j_iinc (L' := [(2, vI (w32 (v2 + 1))), (3, vI (x5)), (0, vR 13), (1, vI (v1))]) hX 3 dX4_worked_180 hnl (by decide) rfl rfl ?_
                    refine j_goto hX (tgt := 9) dX4_worked_183 (by decide) ?_
                    refine j_sub [2, 3, 0] rfl ?_
                    exact ih _ _ _ h
                  · rw [if_pos hc] at h
                    refine j_iconst hX dX4_worked_130 (rc rfl) ?_
                    refine j_goto hX (tgt := 135) dX4_worked_131 (by decide) ?_
                    obtain ⟨S18, h1, h⟩ := bs h
                    refine j_callVV hX mwX4_push miX4_push wd674 cbX4 ty13 hyX4_push (by omega) (by decide) ⟨Nat.zero_le _, Nat.zero_le _⟩ dX4_worked_135 (s_X4_push hfl hE h1) npX4_push rfl (Nat.le_of_ble_eq_true rfl) ?_
                    refine j_goto hX (tgt := 180) dX4_worked_138 (by decide) ?_
                    refine j_iinc (L' := [(2, vI (w32 (v2 + 1))), (3, vI (x5)), (0, vR 13), (1, vI (v1))]) hX 3 dX4_worked_180 hnl (by decide) rfl rfl ?_
                    refine j_goto hX (tgt := 9) dX4_worked_183 (by decide) ?_
                    refine j_sub [2, 3, 0] rfl ?_
                    exact ih _ _ _ h
              · rw [if_pos hc] at h
                refine j_aload_n hX 1 dX4_worked_98 rfl rfl ?_
                obtain ⟨x20, S19, h1, h⟩ := bd2_s h
                refine j_callVI hX mwX4_pop miX4_pop wd678 cbX4 ty13 hyX4_pop (by omega) (by decide) ⟨Nat.zero_le _, Nat.zero_le _⟩ dX4_worked_99 (s_X4_pop hfl hE h1) npX4_pop rfl (Nat.le_of_ble_eq_true rfl) ?_
                refine j_istore (L' := [(4, vI (x20)), (3, vI (x5)), (0, vR 13), (1, vI (v1)), (2, vI (v2))]) hX dX4_worked_102 hnl (by decide) rfl ?_
                refine j_iload_n hX 3 dX4_worked_104 rfl rfl ?_
                refine j_if_eq hX (tgt := 111) dX4_worked_105 (by decide) (fun hc => ?_) (fun hc => ?_)
                · rw [if_pos hc] at h
                  refine j_iconst hX dX4_worked_111 (rc rfl) ?_
                  refine j_istore_n (L' := [(1, vI (1)), (4, vI (x20)), (3, vI (x5)), (0, vR 13), (2, vI (v2))]) hX dX4_worked_112 rfl hnl (by decide) rfl ?_
                  refine j_goto hX (tgt := 180) dX4_worked_113 (by decide) ?_
                  refine j_iinc (L' := [(2, vI (w32 (v2 + 1))), (1, vI (1)), (4, vI (x20)), (3, vI (x5)), (0, vR 13)]) hX 4 dX4_worked_180 hnl (by decide) rfl rfl ?_
                  refine j_goto hX (tgt := 9) dX4_worked_183 (by decide) ?_
                  refine j_sub [4, 1, 0] rfl ?_
                  exact ih _ _ _ h
                · rw [if_neg hc] at h
                  refine j_iload hX 0 dX4_worked_108 rfl ?_
                  cases h
                  exact j_iret hX hR dX4_worked_110
            · rw [if_pos hc] at h
              refine j_aload_n hX 1 dX4_worked_76 rfl rfl ?_
              obtain ⟨x22, S21, h1, h⟩ := bd2_s h
              refine j_callVI hX mwX4_pop miX4_pop wd678 cbX4 ty13 hyX4_pop (by omega) (by decide) ⟨Nat.zero_le _, Nat.zero_le _⟩ dX4_worked_77 (s_X4_pop hfl hE h1) npX4_pop rfl (Nat.le_of_ble_eq_true rfl) ?_
              refine j_if_eq hX (tgt := 87) dX4_worked_80 (by decide) (fun hc => ?_) (fun hc => ?_)
              · rw [if_pos hc] at h
                refine j_iconst hX dX4_worked_87 (rc rfl) ?_
                refine j_istore_n (L' := [(1, vI (0)), (3, vI (x5)), (0, vR 13), (2, vI (v2))]) hX dX4_worked_88 rfl hnl (by decide) rfl ?_
                refine j_goto hX (tgt := 180) dX4_worked_89 (by decide) ?_
                refine j_iinc (L' := [(2, vI (w32 (v2 + 1))), (1, vI (0)), (3, vI (x5)), (0, vR 13)]) hX 3 dX4_worked_180 hnl (by decide) rfl rfl ?_
                refine j_goto hX (tgt := 9) dX4_worked_183 (by decide) ?_
                refine j_sub [3, 1, 0] rfl ?_
                exact ih _ _ _ h
              · rw [if_neg hc] at h
                refine j_iconst hX dX4_worked_83 (rc rfl) ?_
                refine j_goto hX (tgt := 88) dX4_worked_84 (by decide) ?_
                refine j_istore_n (L' := [(1, vI (1)), (3, vI (x5)), (0, vR 13), (2, vI (v2))]) hX dX4_worked_88 rfl hnl (by decide) rfl ?_
                refine j_goto hX (tgt := 180) dX4_worked_89 (by decide) ?_
                refine j_iinc (L' := [(2, vI (w32 (v2 + 1))), (1, vI (1)), (3, vI (x5)), (0, vR 13)]) hX 3 dX4_worked_180 hnl (by decide) rfl rfl ?_
                refine j_goto hX (tgt := 9) dX4_worked_183 (by decide) ?_
                refine j_sub [3, 1, 0] rfl ?_
                exact ih _ _ _ h
          · rw [if_neg hc] at h
            refine j_aload_n hX 1 dX4_worked_55 rfl rfl ?_
            refine j_aload_n hX 1 dX4_worked_56 rfl rfl ?_
            refine j_getS (k := 8) hX hfl cbX4 ty13 (by decide) rfl wd187 rfl sb13_8 dX4_worked_57 ?_
            refine j_iconst hX dX4_worked_60 (rc rfl) ?_
            refine j_iload_n hX 0 dX4_worked_61 rfl rfl ?_
            refine j_isub hX dX4_worked_62 ?_
            obtain ⟨x23, hv, h⟩ := bs h
            refine j_iald hX hE ty17 pc17 hv dX4_worked_63 ?_
            obtain ⟨S24, h1, h⟩ := bs h
            refine j_callVV hX mwX4_push miX4_push wd674 cbX4 ty13 hyX4_push (by omega) (by decide) ⟨Nat.zero_le _, Nat.zero_le _⟩ dX4_worked_64 (s_X4_push hfl hE h1) npX4_push rfl (Nat.le_of_ble_eq_true rfl) ?_
            refine j_goto hX (tgt := 180) dX4_worked_67 (by decide) ?_
            refine j_iinc (L' := [(2, vI (w32 (v2 + 1))), (3, vI (x5)), (0, vR 13), (1, vI (v1))]) hX 3 dX4_worked_180 hnl (by decide) rfl rfl ?_
            refine j_goto hX (tgt := 9) dX4_worked_183 (by decide) ?_
            refine j_sub [2, 3, 0] rfl ?_
            exact ih _ _ _ h
        · rw [if_neg hc] at h
          refine j_aload_n hX 1 dX4_worked_37 rfl rfl ?_
          refine j_iload_n hX 0 dX4_worked_38 rfl rfl ?_
          obtain ⟨S25, h1, h⟩ := bs h
          refine j_callVV hX mwX4_push miX4_push wd674 cbX4 ty13 hyX4_push (by omega) (by decide) ⟨Nat.zero_le _, Nat.zero_le _⟩ dX4_worked_39 (s_X4_push hfl hE h1) npX4_push rfl (Nat.le_of_ble_eq_true rfl) ?_
          refine j_goto hX (tgt := 180) dX4_worked_42 (by decide) ?_
          refine j_iinc (L' := [(2, vI (w32 (v2 + 1))), (3, vI (x5)), (0, vR 13), (1, vI (v1))]) hX 3 dX4_worked_180 hnl (by decide) rfl rfl ?_
          refine j_goto hX (tgt := 9) dX4_worked_183 (by decide) ?_
          refine j_sub [2, 3, 0] rfl ?_
          exact ih _ _ _ h
theorem s_X4_worked {g : G0} {B : Nat → Nat} {n : Nat} {E : Mem → Mem}  {S : Mem} {r : Int} {S' : Mem} (hfl : g.2.2.2.2 = true) (hE : Lens E PC) (h : g_X4_worked S = some (r, S')) : Cn g B n yX4_worked cX4_worked 5 (some .int) 2 [vR 13] (E S) (QcI g B n r (E S')) := by
  refine Cn.of (by decide +kernel) (Nat.le_of_ble_eq_true rfl) (fun X hg hnl hX hR => ?_)
  subst hg
  have hX : Ctx X cX4_worked "TelegramFeelings$Law" 2 := hX
  unfold g_X4_worked at h
  show JW X B n 0 0 0 [(0, vR 13)] [] (E S) (QM X (QcI (gX X) B n r (E S')))
  refine j_iconst hX dX4_worked_0 (rc rfl) ?_
  refine j_istore_n (L' := [(1, vI (1)), (0, vR 13)]) hX dX4_worked_1 rfl hnl (by decide) rfl ?_
  refine j_aload_n hX 1 dX4_worked_2 rfl rfl ?_
  refine j_iconst hX dX4_worked_3 (rc rfl) ?_
  refine j_putI (k := 10) hX hE cbX4 ty13 pc13 (by decide) rfl wd189 rfl (Or.inl rfl) rfl dX4_worked_4 ?_
  obtain ⟨S1, hx, h⟩ := ap_s h
  rw [← hx]
  clear hx
  refine j_iconst hX dX4_worked_7 (rc rfl) ?_
  refine j_istore_n (L' := [(2, vI (0)), (1, vI (1)), (0, vR 13)]) hX dX4_worked_8 rfl hnl (by decide) rfl ?_
  refine j_sub [2, 1, 0] rfl ?_
  refine sl_X4_worked_9 hX hR hfl hnl hE  _ _ _ _ h
theorem s_X4_priceOf {g : G0} {B : Nat → Nat} {n : Nat} {E : Mem → Mem} {a1 : Int} {a2 : Int} {a3 : Int} {S : Mem} {r : Int} {S' : Mem} (hfl : g.2.2.2.2 = true) (hE : Lens E PC) (h : g_X4_priceOf a1 a2 a3 S = some (r, S')) : Cn g B n yX4_priceOf cX4_priceOf 6 (some .int) 3 [vR 13, vI (a1), vI (a2), vI (a3)] (E S) (QcI g B n r (E S')) := by
  refine Cn.of (by decide +kernel) (Nat.le_of_ble_eq_true rfl) (fun X hg hnl hX hR => ?_)
  subst hg
  have hX : Ctx X cX4_priceOf "TelegramFeelings$Law" 3 := hX
  unfold g_X4_priceOf at h
  show JW X B n 0 0 0 [(0, vR 13), (1, vI (a1)), (2, vI (a2)), (3, vI (a3))] [] (E S) (QM X (QcI (gX X) B n r (E S')))
  refine j_aload_n hX 0 dX4_priceOf_0 rfl rfl ?_
  refine j_getS (k := 0) hX hfl cbX4 ty13 (by decide) rfl wd178 rfl sb13_0 dX4_priceOf_1 ?_
  refine j_iload_n hX 1 dX4_priceOf_4 rfl rfl ?_
  refine j_iconst hX dX4_priceOf_5 (rc rfl) ?_
  obtain ⟨x1, h1, h⟩ := bs h
  refine j_callVI hX mwX5_value miX5_value wd669 cbX5 ty1 hyX5_value (by omega) (by decide) ⟨Nat.zero_le _, Nat.zero_le _⟩ dX4_priceOf_6 (s_X5_value hfl hE h1) npX5_value rfl (Nat.le_of_ble_eq_true rfl) ?_
  refine j_istore (L' := [(4, vI (x1)), (0, vR 13), (1, vI (a1)), (2, vI (a2)), (3, vI (a3))]) hX dX4_priceOf_9 hnl (by decide) rfl ?_
  refine j_aload_n hX 1 dX4_priceOf_11 rfl rfl ?_
  refine j_getS (k := 0) hX hfl cbX4 ty13 (by decide) rfl wd178 rfl sb13_0 dX4_priceOf_12 ?_
  refine j_iconst hX dX4_priceOf_15 (rc rfl) ?_
  refine j_bipush hX dX4_priceOf_16 (rc rfl) (by decide) ?_
  obtain ⟨x2, h1, h⟩ := bs h
  refine j_callVI hX mwX5_value miX5_value wd669 cbX5 ty1 hyX5_value (by omega) (by decide) ⟨Nat.zero_le _, Nat.zero_le _⟩ dX4_priceOf_18 (s_X5_value hfl hE h1) npX5_value rfl (Nat.le_of_ble_eq_true rfl) ?_
  refine j_istore (L' := [(5, vI (x2)), (4, vI (x1)), (0, vR 13), (1, vI (a1)), (2, vI (a2)), (3, vI (a3))]) hX dX4_priceOf_21 hnl (by decide) rfl ?_
  refine j_aload_n hX 2 dX4_priceOf_23 rfl rfl ?_
  refine j_getI (k := 4) hX hE cbX4 ty13 pc13 (by decide) rfl wd183 rfl dX4_priceOf_24 ?_
  refine j_if_ne hX (tgt := 46) dX4_priceOf_27 (by decide) (fun hc => ?_) (fun hc => ?_)
  · rw [if_neg hc] at h
    refine j_aload_n hX 2 dX4_priceOf_46 rfl rfl ?_
    refine j_getS (k := 8) hX hfl cbX4 ty13 (by decide) rfl wd187 rfl sb13_8 dX4_priceOf_47 ?_
    refine j_iconst hX dX4_priceOf_50 (rc rfl) ?_
    refine j_iload hX 1 dX4_priceOf_51 rfl ?_
    refine j_iast hX hE ty17 pc17 (stk_c (k := 0) (by decide)) dX4_priceOf_53 ?_
    obtain ⟨S3, hx, h⟩ := ap_s h
    rw [← hx]
    clear hx
    refine j_aload_n hX 2 dX4_priceOf_54 rfl rfl ?_
    refine j_getS (k := 8) hX hfl cbX4 ty13 (by decide) rfl wd187 rfl sb13_8 dX4_priceOf_55 ?_
    refine j_iconst hX dX4_priceOf_58 (rc rfl) ?_
    refine j_aload_n hX 2 dX4_priceOf_59 rfl rfl ?_
    refine j_getS (k := 0) hX hfl cbX4 ty13 (by decide) rfl wd178 rfl sb13_0 dX4_priceOf_60 ?_
    refine j_iload_n hX 3 dX4_priceOf_63 rfl rfl ?_
    refine j_iconst hX dX4_priceOf_64 (rc rfl) ?_
    obtain ⟨x4, h1, h⟩ := bs h
    refine j_callVI hX mwX5_value miX5_value wd669 cbX5 ty1 hyX5_value (by omega) (by decide) ⟨Nat.zero_le _, Nat.zero_le _⟩ dX4_priceOf_65 (s_X5_value hfl hE h1) npX5_value rfl (Nat.le_of_ble_eq_true rfl) ?_
    refine j_iast hX hE ty17 pc17 (stk_c (k := 1) (by decide)) dX4_priceOf_68 ?_
    obtain ⟨S5, hx, h⟩ := ap_s h
    rw [← hx]
    clear hx
    refine j_aload_n hX 2 dX4_priceOf_69 rfl rfl ?_
    refine j_getS (k := 8) hX hfl cbX4 ty13 (by decide) rfl wd187 rfl sb13_8 dX4_priceOf_70 ?_
    refine j_iconst hX dX4_priceOf_73 (rc rfl) ?_
    refine j_iload_n hX 4 dX4_priceOf_74 rfl rfl ?_
    refine j_iast hX hE ty17 pc17 (stk_c (k := 2) (by decide)) dX4_priceOf_75 ?_
    obtain ⟨S6, hx, h⟩ := ap_s h
    rw [← hx]
    clear hx
    refine j_aload_n hX 2 dX4_priceOf_76 rfl rfl ?_
    refine j_getS (k := 8) hX hfl cbX4 ty13 (by decide) rfl wd187 rfl sb13_8 dX4_priceOf_77 ?_
    refine j_iconst hX dX4_priceOf_80 (rc rfl) ?_
    refine j_iload_n hX 5 dX4_priceOf_81 rfl rfl ?_
    refine j_iast hX hE ty17 pc17 (stk_c (k := 3) (by decide)) dX4_priceOf_82 ?_
    obtain ⟨S7, hx, h⟩ := ap_s h
    rw [← hx]
    clear hx
    refine j_aload_n hX 2 dX4_priceOf_83 rfl rfl ?_
    refine j_getS (k := 8) hX hfl cbX4 ty13 (by decide) rfl wd187 rfl sb13_8 dX4_priceOf_84 ?_
    refine j_iconst hX dX4_priceOf_87 (rc rfl) ?_
    refine j_iload hX 0 dX4_priceOf_88 rfl ?_
    refine j_iast hX hE ty17 pc17 (stk_c (k := 4) (by decide)) dX4_priceOf_90 ?_
    obtain ⟨S8, hx, h⟩ := ap_s h
    rw [← hx]
    clear hx
    refine j_aload_n hX 2 dX4_priceOf_91 rfl rfl ?_
    refine j_getS (k := 8) hX hfl cbX4 ty13 (by decide) rfl wd187 rfl sb13_8 dX4_priceOf_92 ?_
    refine j_iconst hX dX4_priceOf_95 (rc rfl) ?_
    refine j_iload_n hX 3 dX4_priceOf_96 rfl rfl ?_
    refine j_iast hX hE ty17 pc17 (stk_c (k := 5) (by decide)) dX4_priceOf_97 ?_
    obtain ⟨S9, hx, h⟩ := ap_s h
    rw [← hx]
    clear hx
    refine j_iconst hX dX4_priceOf_98 (rc rfl) ?_
    refine j_bipush hX dX4_priceOf_99 (rc rfl) (by decide) ?_
    refine j_aload_n hX 2 dX4_priceOf_101 rfl rfl ?_
    obtain ⟨x11, S10, h1, h⟩ := bd2_s h
    refine j_callVI hX mwX4_worked miX4_worked wd670 cbX4 ty13 hyX4_worked (by omega) (by decide) ⟨Nat.zero_le _, Nat.zero_le _⟩ dX4_priceOf_102 (s_X4_worked hfl hE h1) npX4_worked rfl (Nat.le_of_ble_eq_true rfl) ?_
    refine j_mmin hX wd685 (by omega) ⟨Nat.zero_le _, Nat.zero_le _⟩ dX4_priceOf_105 rfl ?_
    refine j_mmax hX wd686 (by omega) ⟨Nat.zero_le _, Nat.zero_le _⟩ dX4_priceOf_108 rfl ?_
    cases h
    exact j_iret hX hR dX4_priceOf_111
  · rw [if_pos hc] at h
    refine j_iload hX 0 dX4_priceOf_30 rfl ?_
    refine j_iconst hX dX4_priceOf_32 (rc rfl) ?_
    refine j_icmp_ne hX (tgt := 43) dX4_priceOf_33 (by decide) (fun hc => ?_) (fun hc => ?_)
    · rw [if_neg hc] at h
      refine j_iload hX 1 dX4_priceOf_43 rfl ?_
      cases h
      exact j_iret hX hR dX4_priceOf_45
    · rw [if_pos hc] at h
      refine j_iload hX 1 dX4_priceOf_36 rfl ?_
      refine j_iconst hX dX4_priceOf_38 (rc rfl) ?_
      refine j_idiv hX dX4_priceOf_39 (by decide) ?_
      refine j_goto hX (tgt := 45) dX4_priceOf_40 (by decide) ?_
      cases h
      exact j_iret hX hR dX4_priceOf_45
theorem s_X9_between {g : G0} {B : Nat → Nat} {n : Nat} {M : Mem} {a1 : Int} {a2 : Int} {a3 : Int} {r : Int} (hfl : g.2.2.2.2 = true) (h : g_X9_between a1 a2 a3 = r) : Cn g B n yX9_between cX9_between 3 (some .boolean) 1 [vI (a1), vI (a2), vI (a3)] M (QcI g B n r M) := by
  refine Cn.of (by decide +kernel) (Nat.le_of_ble_eq_true rfl) (fun X hg hnl hX hR => ?_)
  subst hg
  have hX : Ctx X cX9_between "TelegramFeelings" 1 := hX
  unfold g_X9_between at h
  show JW X B n 0 0 0 [(0, vI (a1)), (1, vI (a2)), (2, vI (a3))] [] (M) (QM X (QcI (gX X) B n r M))
  refine j_iload_n hX 0 dX9_between_0 rfl rfl ?_
  refine j_iload_n hX 1 dX9_between_1 rfl rfl ?_
  refine j_icmp_lt hX (tgt := 14) dX9_between_2 (by decide) (fun hc => ?_) (fun hc => ?_)
  · rw [if_pos hc] at h
    refine j_iconst hX dX9_between_14 (rc rfl) ?_
    subst h
    exact j_zret hX hR (Or.inl rfl) dX9_between_15
  · rw [if_neg hc] at h
    refine j_iload_n hX 0 dX9_between_5 rfl rfl ?_
    refine j_iload_n hX 2 dX9_between_6 rfl rfl ?_
    refine j_icmp_gt hX (tgt := 14) dX9_between_7 (by decide) (fun hc => ?_) (fun hc => ?_)
    · rw [if_pos hc] at h
      refine j_iconst hX dX9_between_14 (rc rfl) ?_
      subst h
      exact j_zret hX hR (Or.inl rfl) dX9_between_15
    · rw [if_neg hc] at h
      refine j_iconst hX dX9_between_10 (rc rfl) ?_
      refine j_goto hX (tgt := 15) dX9_between_11 (by decide) ?_
      subst h
      exact j_zret hX hR (Or.inr rfl) dX9_between_15
theorem s_X5_fits {g : G0} {B : Nat → Nat} {n : Nat} {E : Mem → Mem} {a1 : Int} {a2 : Int} {S : Mem} {r : Int} (hfl : g.2.2.2.2 = true) (hE : Lens E PC) (h : g_X5_fits a1 a2 S = some r) : Cn g B n yX5_fits cX5_fits 3 (some .boolean) 2 [vR 1, vI (a1), vI (a2)] (E S) (QcI g B n r (E S)) := by
  refine Cn.of (by decide +kernel) (Nat.le_of_ble_eq_true rfl) (fun X hg hnl hX hR => ?_)
  subst hg
  have hX : Ctx X cX5_fits "TelegramFeelings$Office" 2 := hX
  unfold g_X5_fits at h
  show JW X B n 0 0 0 [(0, vR 1), (1, vI (a1)), (2, vI (a2))] [] (E S) (QM X (QcI (gX X) B n r (E S)))
  refine j_iload_n hX 1 dX5_fits_0 rfl rfl ?_
  refine j_if_lt hX (tgt := 10) dX5_fits_1 (by decide) (fun hc => ?_) (fun hc => ?_)
  · rw [if_pos hc] at h
    refine j_iconst hX dX5_fits_10 (rc rfl) ?_
    cases h
    exact j_zret hX hR (Or.inl rfl) dX5_fits_11
  · rw [if_neg hc] at h
    refine j_iload_n hX 1 dX5_fits_4 rfl rfl ?_
    refine j_bipush hX dX5_fits_5 (rc rfl) (by decide) ?_
    refine j_icmp_le hX (tgt := 12) dX5_fits_7 (by decide) (fun hc => ?_) (fun hc => ?_)
    · rw [if_pos hc] at h
      refine j_iload_n hX 2 dX5_fits_12 rfl rfl ?_
      refine j_gst hX (q := 0) (by decide) rfl wd440 dX5_fits_13 (fun t1 ht1 => ?_)
      refine j_iload_n hX 1 dX5_fits_16 rfl rfl ?_
      obtain ⟨x2, hv, h⟩ := bs h
      refine j_ialdS hX (q := 0) (by decide) ht1 hv dX5_fits_17 ?_
      refine j_iload_n hX 1 dX5_fits_18 rfl rfl ?_
      refine j_iconst hX dX5_fits_19 (rc rfl) ?_
      refine j_icmp_ne hX (tgt := 32) dX5_fits_20 (by decide) (fun hc => ?_) (fun hc => ?_)
      · rw [if_neg hc] at h
        refine j_gst hX (q := 1) (by decide) rfl wd442 dX5_fits_32 (fun t3 ht3 => ?_)
        refine j_iload_n hX 1 dX5_fits_35 rfl rfl ?_
        obtain ⟨x4, hv, h⟩ := bs h
        refine j_ialdS hX (q := 1) (by decide) ht3 hv dX5_fits_36 ?_
        refine j_callNI hX mwX9_between msX9_between (fun h => h.2.1.2.1) hyX9_between (by omega) (by decide) ⟨Nat.zero_le _, Nat.zero_le _⟩ dX5_fits_37 (s_X9_between hfl rfl) npX9_between rfl (Nat.le_of_ble_eq_true rfl) ?_
        obtain ⟨hz, h⟩ := chk_s h
        cases h
        exact j_zret hX hR hz dX5_fits_40
      · rw [if_pos hc] at h
        refine j_aload_n hX 0 dX5_fits_23 rfl rfl ?_
        refine j_getI (k := 1) hX hE cbX5 ty1 pc1 (by decide) rfl wd141 rfl dX5_fits_24 ?_
        refine j_iconst hX dX5_fits_27 (rc rfl) ?_
        refine j_isub hX dX5_fits_28 ?_
        refine j_goto hX (tgt := 37) dX5_fits_29 (by decide) ?_
        refine j_callNI hX mwX9_between msX9_between (fun h => h.2.1.2.1) hyX9_between (by omega) (by decide) ⟨Nat.zero_le _, Nat.zero_le _⟩ dX5_fits_37 (s_X9_between hfl rfl) npX9_between rfl (Nat.le_of_ble_eq_true rfl) ?_
        obtain ⟨hz, h⟩ := chk_s h
        cases h
        exact j_zret hX hR hz dX5_fits_40
    · rw [if_neg hc] at h
      refine j_iconst hX dX5_fits_10 (rc rfl) ?_
      cases h
      exact j_zret hX hR (Or.inl rfl) dX5_fits_11
theorem s_X5_addWord {g : G0} {B : Nat → Nat} {n : Nat} {E : Mem → Mem} {a1 : Int} {a2 : Int} {a3 : Int} {S : Mem} {r : Int} {S' : Mem} (hfl : g.2.2.2.2 = true) (hE : Lens E PC) (h : g_X5_addWord a1 a2 a3 S = some (r, S')) : Cn g B n yX5_addWord cX5_addWord 5 (some .int) 3 [vR 1, vI (a1), vI (a2), vI (a3)] (E S) (QcI g B n r (E S')) := by
  refine Cn.of (by decide +kernel) (Nat.le_of_ble_eq_true rfl) (fun X hg hnl hX hR => ?_)
  subst hg
  have hX : Ctx X cX5_addWord "TelegramFeelings$Office" 3 := hX
  unfold g_X5_addWord at h
  show JW X B n 0 0 0 [(0, vR 1), (1, vI (a1)), (2, vI (a2)), (3, vI (a3))] [] (E S) (QM X (QcI (gX X) B n r (E S')))
  refine j_aload_n hX 0 dX5_addWord_0 rfl rfl ?_
  refine j_getI (k := 1) hX hE cbX5 ty1 pc1 (by decide) rfl wd141 rfl dX5_addWord_1 ?_
  refine j_bipush hX dX5_addWord_4 (rc rfl) (by decide) ?_
  refine j_icmp_lt hX (tgt := 12) dX5_addWord_6 (by decide) (fun hc => ?_) (fun hc => ?_)
  · rw [if_pos hc] at h
    refine j_aload_n hX 0 dX5_addWord_12 rfl rfl ?_
    refine j_dup hX dX5_addWord_13 rfl ?_
    refine j_getI (k := 1) hX hE cbX5 ty1 pc1 (by decide) rfl wd141 rfl dX5_addWord_14 ?_
    refine j_dup_x1 hX dX5_addWord_17 rfl rfl ?_
    refine j_iconst hX dX5_addWord_18 (rc rfl) ?_
    refine j_iadd hX dX5_addWord_19 ?_
    refine j_putI (k := 1) hX hE cbX5 ty1 pc1 (by decide) rfl wd141 rfl (Or.inl rfl) rfl dX5_addWord_20 ?_
    obtain ⟨S1, hx, h⟩ := ap_s h
    rw [← hx]
    clear hx
    refine j_istore (L' := [(4, vI (gI S 1 1)), (0, vR 1), (1, vI (a1)), (2, vI (a2)), (3, vI (a3))]) hX dX5_addWord_23 hnl (by decide) rfl ?_
    refine j_aload_n hX 1 dX5_addWord_25 rfl rfl ?_
    refine j_iload hX 0 dX5_addWord_26 rfl ?_
    refine j_iconst hX dX5_addWord_28 (rc rfl) ?_
    refine j_iload_n hX 2 dX5_addWord_29 rfl rfl ?_
    obtain ⟨S2, h1, h⟩ := bs h
    refine j_callVV hX mwX5_set miX5_set wd451 cbX5 ty1 hyX5_set (by omega) (by decide) ⟨Nat.zero_le _, Nat.zero_le _⟩ dX5_addWord_30 (s_X5_set hfl hE h1) npX5_set rfl (Nat.le_of_ble_eq_true rfl) ?_
    refine j_aload_n hX 1 dX5_addWord_33 rfl rfl ?_
    refine j_iload hX 0 dX5_addWord_34 rfl ?_
    refine j_iconst hX dX5_addWord_36 (rc rfl) ?_
    refine j_iload_n hX 3 dX5_addWord_37 rfl rfl ?_
    obtain ⟨S3, h1, h⟩ := bs h
    refine j_callVV hX mwX5_set miX5_set wd451 cbX5 ty1 hyX5_set (by omega) (by decide) ⟨Nat.zero_le _, Nat.zero_le _⟩ dX5_addWord_38 (s_X5_set hfl hE h1) npX5_set rfl (Nat.le_of_ble_eq_true rfl) ?_
    refine j_aload_n hX 1 dX5_addWord_41 rfl rfl ?_
    refine j_iload hX 0 dX5_addWord_42 rfl ?_
    refine j_iconst hX dX5_addWord_44 (rc rfl) ?_
    refine j_iload_n hX 4 dX5_addWord_45 rfl rfl ?_
    obtain ⟨S4, h1, h⟩ := bs h
    refine j_callVV hX mwX5_set miX5_set wd451 cbX5 ty1 hyX5_set (by omega) (by decide) ⟨Nat.zero_le _, Nat.zero_le _⟩ dX5_addWord_46 (s_X5_set hfl hE h1) npX5_set rfl (Nat.le_of_ble_eq_true rfl) ?_
    refine j_aload_n hX 1 dX5_addWord_49 rfl rfl ?_
    refine j_iload hX 0 dX5_addWord_50 rfl ?_
    refine j_iconst hX dX5_addWord_52 (rc rfl) ?_
    refine j_iconst hX dX5_addWord_53 (rc rfl) ?_
    obtain ⟨S5, h1, h⟩ := bs h
    refine j_callVV hX mwX5_set miX5_set wd451 cbX5 ty1 hyX5_set (by omega) (by decide) ⟨Nat.zero_le _, Nat.zero_le _⟩ dX5_addWord_54 (s_X5_set hfl hE h1) npX5_set rfl (Nat.le_of_ble_eq_true rfl) ?_
    refine j_aload_n hX 1 dX5_addWord_57 rfl rfl ?_
    refine j_iload hX 0 dX5_addWord_58 rfl ?_
    refine j_iconst hX dX5_addWord_60 (rc rfl) ?_
    refine j_iload hX 0 dX5_addWord_61 rfl ?_
    obtain ⟨S6, h1, h⟩ := bs h
    refine j_callVV hX mwX5_set miX5_set wd451 cbX5 ty1 hyX5_set (by omega) (by decide) ⟨Nat.zero_le _, Nat.zero_le _⟩ dX5_addWord_63 (s_X5_set hfl hE h1) npX5_set rfl (Nat.le_of_ble_eq_true rfl) ?_
    refine j_iload hX 0 dX5_addWord_66 rfl ?_
    cases h
    exact j_iret hX hR dX5_addWord_68
  · rw [if_neg hc] at h
    refine j_bipush hX dX5_addWord_9 (rc rfl) (by decide) ?_
    cases h
    exact j_iret hX hR dX5_addWord_11
theorem s_X5_addPerson {g : G0} {B : Nat → Nat} {n : Nat} {E : Mem → Mem} {a1 : Int} {S : Mem} {r : Int} {S' : Mem} (hfl : g.2.2.2.2 = true) (hE : Lens E PC) (h : g_X5_addPerson a1 S = some (r, S')) : Cn g B n yX5_addPerson cX5_addPerson 3 (some .int) 3 [vR 1, vI (a1)] (E S) (QcI g B n r (E S')) := by
  refine Cn.of (by decide +kernel) (Nat.le_of_ble_eq_true rfl) (fun X hg hnl hX hR => ?_)
  subst hg
  have hX : Ctx X cX5_addPerson "TelegramFeelings$Office" 3 := hX
  unfold g_X5_addPerson at h
  show JW X B n 0 0 0 [(0, vR 1), (1, vI (a1))] [] (E S) (QM X (QcI (gX X) B n r (E S')))
  refine j_aload_n hX 0 dX5_addPerson_0 rfl rfl ?_
  refine j_getI (k := 2) hX hE cbX5 ty1 pc1 (by decide) rfl wd145 rfl dX5_addPerson_1 ?_
  refine j_bipush hX dX5_addPerson_4 (rc rfl) (by decide) ?_
  refine j_icmp_lt hX (tgt := 12) dX5_addPerson_6 (by decide) (fun hc => ?_) (fun hc => ?_)
  · rw [if_pos hc] at h
    refine j_aload_n hX 0 dX5_addPerson_12 rfl rfl ?_
    refine j_dup hX dX5_addPerson_13 rfl ?_
    refine j_getI (k := 2) hX hE cbX5 ty1 pc1 (by decide) rfl wd145 rfl dX5_addPerson_14 ?_
    refine j_dup_x1 hX dX5_addPerson_17 rfl rfl ?_
    refine j_iconst hX dX5_addPerson_18 (rc rfl) ?_
    refine j_iadd hX dX5_addPerson_19 ?_
    refine j_putI (k := 2) hX hE cbX5 ty1 pc1 (by decide) rfl wd145 rfl (Or.inl rfl) rfl dX5_addPerson_20 ?_
    obtain ⟨S1, hx, h⟩ := ap_s h
    rw [← hx]
    clear hx
    refine j_istore_n (L' := [(2, vI (gI S 1 2)), (0, vR 1), (1, vI (a1))]) hX dX5_addPerson_23 rfl hnl (by decide) rfl ?_
    refine j_aload_n hX 1 dX5_addPerson_24 rfl rfl ?_
    refine j_iload_n hX 0 dX5_addPerson_25 rfl rfl ?_
    refine j_iconst hX dX5_addPerson_26 (rc rfl) ?_
    refine j_iload_n hX 2 dX5_addPerson_27 rfl rfl ?_
    obtain ⟨S2, h1, h⟩ := bs h
    refine j_callVV hX mwX5_set miX5_set wd451 cbX5 ty1 hyX5_set (by omega) (by decide) ⟨Nat.zero_le _, Nat.zero_le _⟩ dX5_addPerson_28 (s_X5_set hfl hE h1) npX5_set rfl (Nat.le_of_ble_eq_true rfl) ?_
    refine j_iload_n hX 0 dX5_addPerson_31 rfl rfl ?_
    cases h
    exact j_iret hX hR dX5_addPerson_32
  · rw [if_neg hc] at h
    refine j_bipush hX dX5_addPerson_9 (rc rfl) (by decide) ?_
    cases h
    exact j_iret hX hR dX5_addPerson_11
theorem s_X6_priceIn {g : G0} {B : Nat → Nat} {n : Nat} {M : Mem} {a1 : Int} {r : Int} (hfl : g.2.2.2.2 = true) (h : g_X6_priceIn a1 = r) : Cn g B n yX6_priceIn cX6_priceIn 2 (some .int) 1 [vL (a1)] M (QcI g B n r M) := by
  refine Cn.of (by decide +kernel) (Nat.le_of_ble_eq_true rfl) (fun X hg hnl hX hR => ?_)
  subst hg
  have hX : Ctx X cX6_priceIn "TelegramFeelings$Sayings" 1 := hX
  unfold g_X6_priceIn at h
  show JW X B n 0 0 0 [(0, vL (a1))] [] (M) (QM X (QcI (gX X) B n r M))
  refine j_lload_n hX 0 dX6_priceIn_0 rfl rfl ?_
  refine j_bipush hX dX6_priceIn_1 (rc rfl) (by decide) ?_
  refine j_lshr hX dX6_priceIn_3 ?_
  refine j_l2i hX dX6_priceIn_4 ?_
  subst h
  exact j_iret hX hR dX6_priceIn_5
theorem s_X6_manyIn {g : G0} {B : Nat → Nat} {n : Nat} {M : Mem} {a1 : Int} {r : Int} (hfl : g.2.2.2.2 = true) (h : g_X6_manyIn a1 = r) : Cn g B n yX6_manyIn cX6_manyIn 2 (some .int) 1 [vL (a1)] M (QcI g B n r M) := by
  refine Cn.of (by decide +kernel) (Nat.le_of_ble_eq_true rfl) (fun X hg hnl hX hR => ?_)
  subst hg
  have hX : Ctx X cX6_manyIn "TelegramFeelings$Sayings" 1 := hX
  unfold g_X6_manyIn at h
  show JW X B n 0 0 0 [(0, vL (a1))] [] (M) (QM X (QcI (gX X) B n r M))
  refine j_lload_n hX 0 dX6_manyIn_0 rfl rfl ?_
  refine j_bipush hX dX6_manyIn_1 (rc rfl) (by decide) ?_
  refine j_lshr hX dX6_manyIn_3 ?_
  refine j_ldc2 (z := 15) hX wd783 (by decide) dX6_manyIn_4 (rcl rfl) ?_
  refine j_land hX dX6_manyIn_7 ?_
  refine j_l2i hX dX6_manyIn_8 ?_
  subst h
  exact j_iret hX hR dX6_manyIn_9
theorem s_X6_wordIn {g : G0} {B : Nat → Nat} {n : Nat} {M : Mem} {a1 : Int} {a2 : Int} {r : Int} (hfl : g.2.2.2.2 = true) (h : g_X6_wordIn a1 a2 = r) : Cn g B n yX6_wordIn cX6_wordIn 3 (some .int) 2 [vL (a1), vI (a2)] M (QcI g B n r M) := by
  refine Cn.of (by decide +kernel) (Nat.le_of_ble_eq_true rfl) (fun X hg hnl hX hR => ?_)
  subst hg
  have hX : Ctx X cX6_wordIn "TelegramFeelings$Sayings" 2 := hX
  unfold g_X6_wordIn at h
  show JW X B n 0 0 0 [(0, vL (a1)), (2, vI (a2))] [] (M) (QM X (QcI (gX X) B n r M))
  refine j_lload_n hX 0 dX6_wordIn_0 rfl rfl ?_
  refine j_iconst hX dX6_wordIn_1 (rc rfl) ?_
  refine j_lload_n hX 0 dX6_wordIn_2 rfl rfl ?_
  refine j_callSI hX mwX6_manyIn msX6_manyIn wd787 hyX6_manyIn (by omega) (by decide) ⟨Nat.zero_le _, Nat.zero_le _⟩ dX6_wordIn_3 (s_X6_manyIn hfl rfl) npX6_manyIn rfl (Nat.le_of_ble_eq_true rfl) ?_
  refine j_iconst hX dX6_wordIn_6 (rc rfl) ?_
  refine j_isub hX dX6_wordIn_7 ?_
  refine j_iload_n hX 1 dX6_wordIn_8 rfl rfl ?_
  refine j_isub hX dX6_wordIn_9 ?_
  refine j_imul hX dX6_wordIn_10 ?_
  refine j_lshr hX dX6_wordIn_11 ?_
  refine j_ldc2 (z := 15) hX wd783 (by decide) dX6_wordIn_12 (rcl rfl) ?_
  refine j_land hX dX6_wordIn_15 ?_
  refine j_l2i hX dX6_wordIn_16 ?_
  subst h
  exact j_iret hX hR dX6_wordIn_17
theorem s_X6_firstOf {g : G0} {B : Nat → Nat} {n : Nat} {M : Mem} {a1 : Int} {a2 : Int} {r : Int} (hfl : g.2.2.2.2 = true) (h : g_X6_firstOf a1 a2 = r) : Cn g B n yX6_firstOf cX6_firstOf 4 (some .long) 2 [vL (a1), vL (a2)] M (QcL g B n r M) := by
  refine Cn.of (by decide +kernel) (Nat.le_of_ble_eq_true rfl) (fun X hg hnl hX hR => ?_)
  subst hg
  have hX : Ctx X cX6_firstOf "TelegramFeelings$Sayings" 2 := hX
  unfold g_X6_firstOf at h
  show JW X B n 0 0 0 [(0, vL (a1)), (2, vL (a2))] [] (M) (QM X (QcL (gX X) B n r M))
  refine j_lload_n hX 0 dX6_firstOf_0 rfl rfl ?_
  refine j_lconst (z := 0) hX dX6_firstOf_1 rfl (rcl rfl) ?_
  refine j_lcmp hX dX6_firstOf_2 ?_
  refine j_if_ge hX (tgt := 10) dX6_firstOf_3 (by decide) (fun hc => ?_) (fun hc => ?_)
  · rw [if_pos hc] at h
    refine j_lload_n hX 1 dX6_firstOf_10 rfl rfl ?_
    refine j_lconst (z := 0) hX dX6_firstOf_11 rfl (rcl rfl) ?_
    refine j_lcmp hX dX6_firstOf_12 ?_
    refine j_if_ge hX (tgt := 20) dX6_firstOf_13 (by decide) (fun hc => ?_) (fun hc => ?_)
    · rw [if_pos hc] at h
      refine j_lload_n hX 0 dX6_firstOf_20 rfl rfl ?_
      refine j_lload_n hX 1 dX6_firstOf_21 rfl rfl ?_
      refine j_mminl hX wd769 (by omega) ⟨Nat.zero_le _, Nat.zero_le _⟩ dX6_firstOf_22 rfl ?_
      subst h
      exact j_lret hX hR dX6_firstOf_25
    · rw [if_neg hc] at h
      refine j_lload_n hX 0 dX6_firstOf_16 rfl rfl ?_
      refine j_goto hX (tgt := 25) dX6_firstOf_17 (by decide) ?_
      subst h
      exact j_lret hX hR dX6_firstOf_25
  · rw [if_neg hc] at h
    refine j_lload_n hX 1 dX6_firstOf_6 rfl rfl ?_
    refine j_goto hX (tgt := 25) dX6_firstOf_7 (by decide) ?_
    subst h
    exact j_lret hX hR dX6_firstOf_25
theorem sj_X6_lengthen_86 {X : K0} {B : Nat → Nat} {n : Nat} {E : Mem → Mem} {S' : Mem} (hX : Ctx X cX6_lengthen "TelegramFeelings$Sayings" 4) (hR : CR X none) (hfl : (gX X).2.2.2.2 = true) (hnl : X.2.2.2.2.2.2.2.2.2.2.2.2.2.2 = 13) (hE : Lens E PC) {c : Int → Int → Mem → Option Mem}   {v1 : Int} {v2 : Int} {v3 : Int} {v4 : Int} {v5 : Int} {v7 : Int} {v8 : Int} {s0 : Int} {S : Mem} (Hc : ∀ (v6 : Int) (v7 : Int) (S : Mem), c v6 v7 S = some S' → JW X B n 0 0 38 [(0, vR 34), (1, vI (v1)), (2, vI (v2)), (3, vI (v3)), (4, vI (v4)), (5, vI (v5)), (6, vI (v6)), (7, vI (v7))] [] (E S) (QM X (QcV (gX X) B n (E S')))) (h : g_X6_lengthen_J86 c v1 v2 v3 v4 v5 v7 v8 s0 S = some S') : JW X B n 0 0 86 [(0, vR 34), (1, vI (v1)), (2, vI (v2)), (3, vI (v3)), (4, vI (v4)), (5, vI (v5)), (7, vI (v7)), (8, vL (v8))] [vI (s0)] (E S) (QM X (QcV (gX X) B n (E S'))) := by
  unfold g_X6_lengthen_J86 at h
  refine j_istore (L' := [(6, vI (s0)), (0, vR 34), (1, vI (v1)), (2, vI (v2)), (3, vI (v3)), (4, vI (v4)), (5, vI (v5)), (7, vI (v7)), (8, vL (v8))]) hX dX6_lengthen_86 hnl (by decide) rfl ?_
  refine j_lload hX 8 dX6_lengthen_88 rfl ?_
  refine j_bipush hX dX6_lengthen_90 (rc rfl) (by decide) ?_
  refine j_lshr hX dX6_lengthen_92 ?_
  refine j_iload hX 0 dX6_lengthen_93 rfl ?_
  refine j_i2l hX dX6_lengthen_95 ?_
  refine j_ladd hX dX6_lengthen_96 ?_
  refine j_bipush hX dX6_lengthen_97 (rc rfl) (by decide) ?_
  refine j_lshl hX dX6_lengthen_99 ?_
  refine j_lload hX 8 dX6_lengthen_100 rfl ?_
  refine j_ldc2 (z := 16777215) hX wd765 (by decide) dX6_lengthen_102 (rcl rfl) ?_
  refine j_land hX dX6_lengthen_105 ?_
  refine j_iconst hX dX6_lengthen_106 (rc rfl) ?_
  refine j_lshl hX dX6_lengthen_107 ?_
  refine j_lor hX dX6_lengthen_108 ?_
  refine j_iload_n hX 3 dX6_lengthen_109 rfl rfl ?_
  refine j_i2l hX dX6_lengthen_110 ?_
  refine j_lor hX dX6_lengthen_111 ?_
  obtain ⟨x5, hx, h⟩ := ap_s h
  rw [← hx]
  clear hx
  refine j_lstore (L' := [(10, vL (x5)), (6, vI (s0)), (0, vR 34), (1, vI (v1)), (2, vI (v2)), (3, vI (v3)), (4, vI (v4)), (5, vI (v5)), (7, vI (v7)), (8, vL (v8))]) hX dX6_lengthen_112 hnl (by decide) rfl ?_
  refine j_iload hX 6 dX6_lengthen_114 rfl ?_
  refine j_bipush hX dX6_lengthen_116 (rc rfl) (by decide) ?_
  refine j_imul hX dX6_lengthen_118 ?_
  refine j_iload hX 8 dX6_lengthen_119 rfl ?_
  refine j_iload hX 7 dX6_lengthen_121 rfl ?_
  refine j_ior hX dX6_lengthen_123 ?_
  refine j_iadd hX dX6_lengthen_124 ?_
  obtain ⟨x6, hx, h⟩ := ap_s h
  rw [← hx]
  clear hx
  refine j_istore (L' := [(12, vI (x6)), (10, vL (x5)), (6, vI (s0)), (0, vR 34), (1, vI (v1)), (2, vI (v2)), (3, vI (v3)), (4, vI (v4)), (5, vI (v5)), (7, vI (v7)), (8, vL (v8))]) hX dX6_lengthen_125 hnl (by decide) rfl ?_
  refine j_iload hX 0 dX6_lengthen_127 rfl ?_
  refine j_if_lt hX (tgt := 161) dX6_lengthen_129 (by decide) (fun hc => ?_) (fun hc => ?_)
  · rw [if_pos hc] at h
    refine j_iinc (L' := [(7, vI (w32 (v7 + 1))), (12, vI (x6)), (10, vL (x5)), (6, vI (s0)), (0, vR 34), (1, vI (v1)), (2, vI (v2)), (3, vI (v3)), (4, vI (v4)), (5, vI (v5)), (8, vL (v8))]) hX 9 dX6_lengthen_161 hnl (by decide) rfl rfl ?_
    refine j_goto hX (tgt := 38) dX6_lengthen_164 (by decide) ?_
    refine j_sub [4, 5, 6, 7, 8, 9, 3, 0] rfl ?_
    exact Hc _ _ _ h
  · rw [if_neg hc] at h
    refine j_iload hX 0 dX6_lengthen_132 rfl ?_
    refine j_aload_n hX 3 dX6_lengthen_134 rfl rfl ?_
    obtain ⟨q7, hg, h⟩ := bs h
    refine j_getR (k := 4) hX hE cbX6 ty34 pc34 (by decide) rfl wd276 rfl hg dX6_lengthen_135 ?_
    obtain ⟨x8, hv, h⟩ := bs h
    refine j_alenD hX (Or.inr rfl) hv dX6_lengthen_138 ?_
    refine j_icmp_ge hX (tgt := 161) dX6_lengthen_139 (by decide) (fun hc => ?_) (fun hc => ?_)
    · rw [if_pos hc] at h
      refine j_iinc (L' := [(7, vI (w32 (v7 + 1))), (12, vI (x6)), (10, vL (x5)), (6, vI (s0)), (0, vR 34), (1, vI (v1)), (2, vI (v2)), (3, vI (v3)), (4, vI (v4)), (5, vI (v5)), (8, vL (v8))]) hX 9 dX6_lengthen_161 hnl (by decide) rfl rfl ?_
      refine j_goto hX (tgt := 38) dX6_lengthen_164 (by decide) ?_
      refine j_sub [4, 5, 6, 7, 8, 9, 3, 0] rfl ?_
      exact Hc _ _ _ h
    · rw [if_neg hc] at h
      refine j_aload_n hX 3 dX6_lengthen_142 rfl rfl ?_
      obtain ⟨q9, hg, h⟩ := bs h
      refine j_getR (k := 4) hX hE cbX6 ty34 pc34 (by decide) rfl wd276 rfl hg dX6_lengthen_143 ?_
      refine j_iload hX 0 dX6_lengthen_146 rfl ?_
      refine j_aload_n hX 3 dX6_lengthen_148 rfl rfl ?_
      obtain ⟨q10, hg, h⟩ := bs h
      refine j_getR (k := 4) hX hE cbX6 ty34 pc34 (by decide) rfl wd276 rfl hg dX6_lengthen_149 ?_
      refine j_iload hX 0 dX6_lengthen_152 rfl ?_
      obtain ⟨x11, hv, h⟩ := bs h
      refine j_laldD hX hE (fun _ h => h) hv dX6_lengthen_154 ?_
      refine j_lload hX 1 dX6_lengthen_155 rfl ?_
      refine j_callSL hX mwX6_firstOf msX6_firstOf wd766 hyX6_firstOf (by omega) (by decide) ⟨Nat.zero_le _, Nat.zero_le _⟩ dX6_lengthen_157 (s_X6_firstOf hfl rfl) npX6_firstOf rfl (Nat.le_of_ble_eq_true rfl) ?_
      obtain ⟨S12, hv, h⟩ := bs h
      refine j_lastD hX hE (fun _ h => h) hv dX6_lengthen_160 ?_
      refine j_iinc (L' := [(7, vI (w32 (v7 + 1))), (12, vI (x6)), (10, vL (x5)), (6, vI (s0)), (0, vR 34), (1, vI (v1)), (2, vI (v2)), (3, vI (v3)), (4, vI (v4)), (5, vI (v5)), (8, vL (v8))]) hX 9 dX6_lengthen_161 hnl (by decide) rfl rfl ?_
      refine j_goto hX (tgt := 38) dX6_lengthen_164 (by decide) ?_
      refine j_sub [4, 5, 6, 7, 8, 9, 3, 0] rfl ?_
      exact Hc _ _ _ h
theorem sl_X6_lengthen_38 {X : K0} {B : Nat → Nat} {n : Nat} {E : Mem → Mem} {S' : Mem} (hX : Ctx X cX6_lengthen "TelegramFeelings$Sayings" 4) (hR : CR X none) (hfl : (gX X).2.2.2.2 = true) (hnl : X.2.2.2.2.2.2.2.2.2.2.2.2.2.2 = 13) (hE : Lens E PC)  {v1 : Int} {v2 : Int} {v3 : Int} {v4 : Int} {v5 : Int}  : ∀ (fu : Nat) (v6 : Int) (v7 : Int) (S : Mem), g_X6_lengthen_L38 v1 v2 v3 v4 v5 fu v6 v7 S = some S' → JW X B n 0 0 38 [(0, vR 34), (1, vI (v1)), (2, vI (v2)), (3, vI (v3)), (4, vI (v4)), (5, vI (v5)), (6, vI (v6)), (7, vI (v7))] [] (E S) (QM X (QcV (gX X) B n (E S'))) := by
  intro fu
  induction fu with
  | zero =>
    intro v6 v7 S h
    rw [g_X6_lengthen_L38] at h
    cases h
  | succ fu ih =>
    intro v6 v7 S h
    rw [g_X6_lengthen_L38] at h
    refine j_iload hX 7 dX6_lengthen_38 rfl ?_
    refine j_bipush hX dX6_lengthen_40 (rc rfl) (by decide) ?_
    refine j_icmp_ge hX (tgt := 167) dX6_lengthen_42 (by decide) (fun hc => ?_) (fun hc => ?_)
    · rw [if_pos hc] at h
      cases h
      exact j_vret hX hR dX6_lengthen_167
    · rw [if_neg hc] at h
      refine j_aload_n hX 0 dX6_lengthen_45 rfl rfl ?_
      obtain ⟨q3, hg, h⟩ := bs h
      refine j_getR (k := 3) hX hE cbX6 ty34 pc34 (by decide) rfl wd275 rfl hg dX6_lengthen_46 ?_
      refine j_iload_n hX 1 dX6_lengthen_49 rfl rfl ?_
      refine j_bipush hX dX6_lengthen_50 (rc rfl) (by decide) ?_
      refine j_imul hX dX6_lengthen_52 ?_
      refine j_iload hX 7 dX6_lengthen_53 rfl ?_
      refine j_iadd hX dX6_lengthen_55 ?_
      obtain ⟨x4, hv, h⟩ := bs h
      refine j_laldD hX hE (fun _ h => h) hv dX6_lengthen_56 ?_
      refine j_lstore (L' := [(8, vL (x4)), (0, vR 34), (1, vI (v1)), (2, vI (v2)), (3, vI (v3)), (4, vI (v4)), (5, vI (v5)), (6, vI (v6)), (7, vI (v7))]) hX dX6_lengthen_57 hnl (by decide) rfl ?_
      refine j_lload hX 0 dX6_lengthen_59 rfl ?_
      refine j_lconst (z := 0) hX dX6_lengthen_61 rfl (rcl rfl) ?_
      refine j_lcmp hX dX6_lengthen_62 ?_
      refine j_if_lt hX (tgt := 161) dX6_lengthen_63 (by decide) (fun hc => ?_) (fun hc => ?_)
      · rw [if_pos hc] at h
        refine j_iinc (L' := [(7, vI (w32 (v7 + 1))), (8, vL (x4)), (0, vR 34), (1, vI (v1)), (2, vI (v2)), (3, vI (v3)), (4, vI (v4)), (5, vI (v5)), (6, vI (v6))]) hX 8 dX6_lengthen_161 hnl (by decide) rfl rfl ?_
        refine j_goto hX (tgt := 38) dX6_lengthen_164 (by decide) ?_
        refine j_sub [2, 3, 4, 5, 6, 7, 8, 0] rfl ?_
        exact ih _ _ _ h
      · rw [if_neg hc] at h
        refine j_iload hX 7 dX6_lengthen_66 rfl ?_
        refine j_if_ge hX (tgt := 84) dX6_lengthen_68 (by decide) (fun hc => ?_) (fun hc => ?_)
        · rw [if_pos hc] at h
          refine j_iload hX 7 dX6_lengthen_84 rfl ?_
          refine j_sub [1, 2, 3, 4, 5, 6, 8, 0] rfl ?_
          exact sj_X6_lengthen_86 hX hR hfl hnl hE ih  h
        · rw [if_neg hc] at h
          refine j_aload_n hX 1 dX6_lengthen_71 rfl rfl ?_
          refine j_getS (k := 1) hX hfl cbX6 ty34 (by decide) rfl wd273 rfl sb34_1 dX6_lengthen_72 ?_
          refine j_iload_n hX 3 dX6_lengthen_75 rfl rfl ?_
          refine j_iload_n hX 2 dX6_lengthen_76 rfl rfl ?_
          refine j_iload_n hX 4 dX6_lengthen_77 rfl rfl ?_
          obtain ⟨x14, S13, h1, h⟩ := bd2_s h
          refine j_callVI hX mwX4_priceOf miX4_priceOf wd764 cbX4 ty13 hyX4_priceOf (by omega) (by decide) ⟨Nat.zero_le _, Nat.zero_le _⟩ dX6_lengthen_78 (s_X4_priceOf hfl hE h1) npX4_priceOf rfl (Nat.le_of_ble_eq_true rfl) ?_
          refine j_goto hX (tgt := 86) dX6_lengthen_81 (by decide) ?_
          refine j_sub [1, 2, 3, 4, 5, 6, 8, 0] rfl ?_
          exact sj_X6_lengthen_86 hX hR hfl hnl hE ih  h
theorem s_X6_lengthen {g : G0} {B : Nat → Nat} {n : Nat} {E : Mem → Mem} {a1 : Int} {a2 : Int} {a3 : Int} {S : Mem} {S' : Mem} (hfl : g.2.2.2.2 = true) (hE : Lens E PC) (h : g_X6_lengthen a1 a2 a3 S = some S') : Cn g B n yX6_lengthen cX6_lengthen 13 none 4 [vR 34, vI (a1), vI (a2), vI (a3)] (E S) (QcV g B n (E S')) := by
  refine Cn.of (by decide +kernel) (Nat.le_of_ble_eq_true rfl) (fun X hg hnl hX hR => ?_)
  subst hg
  have hX : Ctx X cX6_lengthen "TelegramFeelings$Sayings" 4 := hX
  unfold g_X6_lengthen at h
  show JW X B n 0 0 0 [(0, vR 34), (1, vI (a1)), (2, vI (a2)), (3, vI (a3))] [] (E S) (QM X (QcV (gX X) B n (E S')))
  refine j_aload_n hX 0 dX6_lengthen_0 rfl rfl ?_
  refine j_getS (k := 0) hX hfl cbX6 ty34 (by decide) rfl wd272 rfl sb34_0 dX6_lengthen_1 ?_
  refine j_iload_n hX 2 dX6_lengthen_4 rfl rfl ?_
  refine j_iconst hX dX6_lengthen_5 (rc rfl) ?_
  obtain ⟨x1, h1, h⟩ := bs h
  refine j_callVI hX mwX5_value miX5_value wd762 cbX5 ty1 hyX5_value (by omega) (by decide) ⟨Nat.zero_le _, Nat.zero_le _⟩ dX6_lengthen_6 (s_X5_value hfl hE h1) npX5_value rfl (Nat.le_of_ble_eq_true rfl) ?_
  refine j_istore (L' := [(4, vI (x1)), (0, vR 34), (1, vI (a1)), (2, vI (a2)), (3, vI (a3))]) hX dX6_lengthen_9 hnl (by decide) rfl ?_
  refine j_iload_n hX 2 dX6_lengthen_11 rfl rfl ?_
  refine j_iload hX 0 dX6_lengthen_12 rfl ?_
  refine j_callSI hX mwX8_follows msX8_follows wd763 hyX8_follows (by omega) (by decide) ⟨Nat.zero_le _, Nat.zero_le _⟩ dX6_lengthen_14 (s_X8_follows hfl rfl) npX8_follows rfl (Nat.le_of_ble_eq_true rfl) ?_
  refine j_if_ne hX (tgt := 21) dX6_lengthen_17 (by decide) (fun hc => ?_) (fun hc => ?_)
  · rw [if_neg hc] at h
    refine j_aload_n hX 1 dX6_lengthen_21 rfl rfl ?_
    refine j_getS (k := 0) hX hfl cbX6 ty34 (by decide) rfl wd272 rfl sb34_0 dX6_lengthen_22 ?_
    refine j_iload_n hX 3 dX6_lengthen_25 rfl rfl ?_
    refine j_iconst hX dX6_lengthen_26 (rc rfl) ?_
    obtain ⟨x2, h1, h⟩ := bs h
    refine j_callVI hX mwX5_value miX5_value wd762 cbX5 ty1 hyX5_value (by omega) (by decide) ⟨Nat.zero_le _, Nat.zero_le _⟩ dX6_lengthen_27 (s_X5_value hfl hE h1) npX5_value rfl (Nat.le_of_ble_eq_true rfl) ?_
    refine j_istore (L' := [(5, vI (x2)), (4, vI (x1)), (0, vR 34), (1, vI (a1)), (2, vI (a2)), (3, vI (a3))]) hX dX6_lengthen_30 hnl (by decide) rfl ?_
    refine j_iconst hX dX6_lengthen_32 (rc rfl) ?_
    refine j_istore (L' := [(6, vI ((-1))), (5, vI (x2)), (4, vI (x1)), (0, vR 34), (1, vI (a1)), (2, vI (a2)), (3, vI (a3))]) hX dX6_lengthen_33 hnl (by decide) rfl ?_
    refine j_iconst hX dX6_lengthen_35 (rc rfl) ?_
    refine j_istore (L' := [(7, vI (0)), (6, vI ((-1))), (5, vI (x2)), (4, vI (x1)), (0, vR 34), (1, vI (a1)), (2, vI (a2)), (3, vI (a3))]) hX dX6_lengthen_36 hnl (by decide) rfl ?_
    refine j_sub [4, 5, 6, 7, 3, 2, 1, 0] rfl ?_
    refine sl_X6_lengthen_38 hX hR hfl hnl hE  _ _ _ _ h
  · rw [if_pos hc] at h
    cases h
    exact j_vret hX hR dX6_lengthen_20
theorem sl_X6_settle_9 {X : K0} {B : Nat → Nat} {n : Nat} {E : Mem → Mem} {S' : Mem} (hX : Ctx X cX6_settle "TelegramFeelings$Sayings" 3) (hR : CR X none) (hfl : (gX X).2.2.2.2 = true) (hnl : X.2.2.2.2.2.2.2.2.2.2.2.2.2.2 = 6) (hE : Lens E PC) {k71 : Mem → Option Mem} {v1 : Int} {v2 : Int} (K71 : ∀ (S : Mem), k71 S = some S' → JW X B n 0 0 71 [(0, vR 34), (1, vI (v1)), (2, vI (v2))] [] (E S) (QM X (QcV (gX X) B n (E S')))) : ∀ (fu : Nat) (v3 : Int) (S : Mem), g_X6_settle_L9 k71 v1 v2 fu v3 S = some S' → JW X B n 0 0 9 [(0, vR 34), (1, vI (v1)), (2, vI (v2)), (3, vI (v3))] [] (E S) (QM X (QcV (gX X) B n (E S'))) := by
  intro fu
  induction fu with
  | zero =>
    intro v3 S h
    rw [g_X6_settle_L9] at h
    cases h
  | succ fu ih =>
    intro v3 S h
    rw [g_X6_settle_L9] at h
    refine j_iload_n hX 3 dX6_settle_9 rfl rfl ?_
    refine j_bipush hX dX6_settle_10 (rc rfl) (by decide) ?_
    refine j_icmp_ge hX (tgt := 71) dX6_settle_12 (by decide) (fun hc => ?_) (fun hc => ?_)
    · rw [if_pos hc] at h
      refine j_sub [0, 1, 2] rfl ?_
      exact K71 _ h
    · rw [if_neg hc] at h
      refine j_aload_n hX 0 dX6_settle_15 rfl rfl ?_
      obtain ⟨q1, hg, h⟩ := bs h
      refine j_getR (k := 3) hX hE cbX6 ty34 pc34 (by decide) rfl wd275 rfl hg dX6_settle_16 ?_
      refine j_iload_n hX 2 dX6_settle_19 rfl rfl ?_
      refine j_bipush hX dX6_settle_20 (rc rfl) (by decide) ?_
      refine j_imul hX dX6_settle_22 ?_
      refine j_iload_n hX 3 dX6_settle_23 rfl rfl ?_
      refine j_iadd hX dX6_settle_24 ?_
      obtain ⟨x2, hv, h⟩ := bs h
      refine j_laldD hX hE (fun _ h => h) hv dX6_settle_25 ?_
      refine j_lstore (L' := [(4, vL (x2)), (0, vR 34), (1, vI (v1)), (2, vI (v2)), (3, vI (v3))]) hX dX6_settle_26 hnl (by decide) rfl ?_
      refine j_lload hX 0 dX6_settle_28 rfl ?_
      refine j_lconst (z := 0) hX dX6_settle_30 rfl (rcl rfl) ?_
      refine j_lcmp hX dX6_settle_31 ?_
      refine j_if_lt hX (tgt := 65) dX6_settle_32 (by decide) (fun hc => ?_) (fun hc => ?_)
      · rw [if_pos hc] at h
        refine j_iinc (L' := [(3, vI (w32 (v3 + 1))), (4, vL (x2)), (0, vR 34), (1, vI (v1)), (2, vI (v2))]) hX 4 dX6_settle_65 hnl (by decide) rfl rfl ?_
        refine j_goto hX (tgt := 9) dX6_settle_68 (by decide) ?_
        refine j_sub [2, 3, 4, 0] rfl ?_
        exact ih _ _ h
      · rw [if_neg hc] at h
        refine j_iload_n hX 3 dX6_settle_35 rfl rfl ?_
        refine j_callSI hX mwX8_mayEnd msX8_mayEnd wd776 hyX8_mayEnd (by omega) (by decide) ⟨Nat.zero_le _, Nat.zero_le _⟩ dX6_settle_36 (s_X8_mayEnd hfl rfl) npX8_mayEnd rfl (Nat.le_of_ble_eq_true rfl) ?_
        refine j_if_eq hX (tgt := 65) dX6_settle_39 (by decide) (fun hc => ?_) (fun hc => ?_)
        · rw [if_pos hc] at h
          refine j_iinc (L' := [(3, vI (w32 (v3 + 1))), (4, vL (x2)), (0, vR 34), (1, vI (v1)), (2, vI (v2))]) hX 4 dX6_settle_65 hnl (by decide) rfl rfl ?_
          refine j_goto hX (tgt := 9) dX6_settle_68 (by decide) ?_
          refine j_sub [2, 3, 4, 0] rfl ?_
          exact ih _ _ h
        · rw [if_neg hc] at h
          refine j_aload_n hX 1 dX6_settle_42 rfl rfl ?_
          refine j_getS (k := 2) hX hfl cbX6 ty34 (by decide) rfl wd274 rfl sb34_2 dX6_settle_43 ?_
          refine j_iload_n hX 4 dX6_settle_46 rfl rfl ?_
          refine j_aload_n hX 1 dX6_settle_47 rfl rfl ?_
          refine j_getS (k := 2) hX hfl cbX6 ty34 (by decide) rfl wd274 rfl sb34_2 dX6_settle_48 ?_
          refine j_iload_n hX 4 dX6_settle_51 rfl rfl ?_
          obtain ⟨x3, hv, h⟩ := bs h
          refine j_lald hX hE ty35 pc35 hv dX6_settle_52 ?_
          refine j_lload hX 0 dX6_settle_53 rfl ?_
          refine j_iload_n hX 2 dX6_settle_55 rfl rfl ?_
          refine j_i2l hX dX6_settle_56 ?_
          refine j_bipush hX dX6_settle_57 (rc rfl) (by decide) ?_
          refine j_lshl hX dX6_settle_59 ?_
          refine j_lor hX dX6_settle_60 ?_
          refine j_callSL hX mwX6_firstOf msX6_firstOf wd766 hyX6_firstOf (by omega) (by decide) ⟨Nat.zero_le _, Nat.zero_le _⟩ dX6_settle_61 (s_X6_firstOf hfl rfl) npX6_firstOf rfl (Nat.le_of_ble_eq_true rfl) ?_
          obtain ⟨S4, hv, h⟩ := bs h
          refine j_last hX hE ty35 pc35 hv dX6_settle_64 ?_
          refine j_iinc (L' := [(3, vI (w32 (v3 + 1))), (4, vL (x2)), (0, vR 34), (1, vI (v1)), (2, vI (v2))]) hX 4 dX6_settle_65 hnl (by decide) rfl rfl ?_
          refine j_goto hX (tgt := 9) dX6_settle_68 (by decide) ?_
          refine j_sub [2, 3, 4, 0] rfl ?_
          exact ih _ _ h
theorem sl_X6_settle_2 {X : K0} {B : Nat → Nat} {n : Nat} {E : Mem → Mem} {S' : Mem} (hX : Ctx X cX6_settle "TelegramFeelings$Sayings" 3) (hR : CR X none) (hfl : (gX X).2.2.2.2 = true) (hnl : X.2.2.2.2.2.2.2.2.2.2.2.2.2.2 = 6) (hE : Lens E PC)  {v1 : Int}  : ∀ (fu : Nat) (v2 : Int) (S : Mem), g_X6_settle_L2 v1 fu v2 S = some S' → JW X B n 0 0 2 [(0, vR 34), (1, vI (v1)), (2, vI (v2))] [] (E S) (QM X (QcV (gX X) B n (E S'))) := by
  intro fu
  induction fu with
  | zero =>
    intro v2 S h
    rw [g_X6_settle_L2] at h
    cases h
  | succ fu ih =>
    intro v2 S h
    rw [g_X6_settle_L2] at h
    refine j_iload_n hX 2 dX6_settle_2 rfl rfl ?_
    refine j_iconst hX dX6_settle_3 (rc rfl) ?_
    refine j_icmp_ge hX (tgt := 77) dX6_settle_4 (by decide) (fun hc => ?_) (fun hc => ?_)
    · rw [if_pos hc] at h
      cases h
      exact j_vret hX hR dX6_settle_77
    · rw [if_neg hc] at h
      refine j_iconst hX dX6_settle_7 (rc rfl) ?_
      refine j_istore_n (L' := [(3, vI (0)), (0, vR 34), (1, vI (v1)), (2, vI (v2))]) hX dX6_settle_8 rfl hnl (by decide) rfl ?_
      refine j_sub [1, 2, 3, 0] rfl ?_
      refine sl_X6_settle_9 hX hR hfl hnl hE (fun S5 h => ?_) _ _ _ h
      refine j_iinc (L' := [(2, vI (w32 (v2 + 1))), (0, vR 34), (1, vI (v1))]) hX 2 dX6_settle_71 hnl (by decide) rfl rfl ?_
      refine j_goto hX (tgt := 2) dX6_settle_74 (by decide) ?_
      refine j_sub [1, 2, 0] rfl ?_
      exact ih _ _ h
theorem s_X6_settle {g : G0} {B : Nat → Nat} {n : Nat} {E : Mem → Mem} {a1 : Int} {S : Mem} {S' : Mem} (hfl : g.2.2.2.2 = true) (hE : Lens E PC) (h : g_X6_settle a1 S = some S') : Cn g B n yX6_settle cX6_settle 6 none 3 [vR 34, vI (a1)] (E S) (QcV g B n (E S')) := by
  refine Cn.of (by decide +kernel) (Nat.le_of_ble_eq_true rfl) (fun X hg hnl hX hR => ?_)
  subst hg
  have hX : Ctx X cX6_settle "TelegramFeelings$Sayings" 3 := hX
  unfold g_X6_settle at h
  show JW X B n 0 0 0 [(0, vR 34), (1, vI (a1))] [] (E S) (QM X (QcV (gX X) B n (E S')))
  refine j_iconst hX dX6_settle_0 (rc rfl) ?_
  refine j_istore_n (L' := [(2, vI (0)), (0, vR 34), (1, vI (a1))]) hX dX6_settle_1 rfl hnl (by decide) rfl ?_
  refine j_sub [1, 2, 0] rfl ?_
  refine sl_X6_settle_2 hX hR hfl hnl hE  _ _ _ h
theorem sl_X6_refresh_88 {X : K0} {B : Nat → Nat} {n : Nat} {E : Mem → Mem} {S' : Mem} (hX : Ctx X cX6_refresh "TelegramFeelings$Sayings" 5) (hR : CR X none) (hfl : (gX X).2.2.2.2 = true) (hnl : X.2.2.2.2.2.2.2.2.2.2.2.2.2.2 = 4) (hE : Lens E PC) {k106 : Mem → Option Mem} {v1 : Int} {v2 : Int} (K106 : ∀ (S : Mem), k106 S = some S' → JW X B n 0 0 106 [(0, vR 34), (1, vI (v1)), (2, vI (v2))] [] (E S) (QM X (QcV (gX X) B n (E S')))) : ∀ (fu : Nat) (v3 : Int) (S : Mem), g_X6_refresh_L88 k106 v1 v2 fu v3 S = some S' → JW X B n 0 0 88 [(0, vR 34), (1, vI (v1)), (2, vI (v2)), (3, vI (v3))] [] (E S) (QM X (QcV (gX X) B n (E S'))) := by
  intro fu
  induction fu with
  | zero =>
    intro v3 S h
    rw [g_X6_refresh_L88] at h
    cases h
  | succ fu ih =>
    intro v3 S h
    rw [g_X6_refresh_L88] at h
    refine j_iload_n hX 3 dX6_refresh_88 rfl rfl ?_
    refine j_iconst hX dX6_refresh_89 (rc rfl) ?_
    refine j_icmp_gt hX (tgt := 106) dX6_refresh_90 (by decide) (fun hc => ?_) (fun hc => ?_)
    · rw [if_pos hc] at h
      refine j_sub [0, 1, 2] rfl ?_
      exact K106 _ h
    · rw [if_neg hc] at h
      refine j_aload_n hX 0 dX6_refresh_93 rfl rfl ?_
      refine j_iload_n hX 3 dX6_refresh_94 rfl rfl ?_
      refine j_iload_n hX 2 dX6_refresh_95 rfl rfl ?_
      refine j_iload_n hX 1 dX6_refresh_96 rfl rfl ?_
      obtain ⟨S9, h1, h⟩ := bs h
      refine j_callVV hX mwX6_lengthen miX6_lengthen wd758 cbX6 ty34 hyX6_lengthen (by omega) (by decide) ⟨Nat.zero_le _, Nat.zero_le _⟩ dX6_refresh_97 (s_X6_lengthen hfl hE h1) npX6_lengthen rfl (Nat.le_of_ble_eq_true rfl) ?_
      refine j_iinc (L' := [(3, vI (w32 (v3 + 1))), (0, vR 34), (1, vI (v1)), (2, vI (v2))]) hX 3 dX6_refresh_100 hnl (by decide) rfl rfl ?_
      refine j_goto hX (tgt := 88) dX6_refresh_103 (by decide) ?_
      refine j_sub [1, 2, 3, 0] rfl ?_
      exact ih _ _ h
theorem sl_X6_refresh_75 {X : K0} {B : Nat → Nat} {n : Nat} {E : Mem → Mem} {S' : Mem} (hX : Ctx X cX6_refresh "TelegramFeelings$Sayings" 5) (hR : CR X none) (hfl : (gX X).2.2.2.2 = true) (hnl : X.2.2.2.2.2.2.2.2.2.2.2.2.2.2 = 4) (hE : Lens E PC) {k112 : Mem → Option Mem} {v1 : Int} (K112 : ∀ (S : Mem), k112 S = some S' → JW X B n 0 0 112 [(0, vR 34), (1, vI (v1))] [] (E S) (QM X (QcV (gX X) B n (E S')))) : ∀ (fu : Nat) (v2 : Int) (S : Mem), g_X6_refresh_L75 k112 v1 fu v2 S = some S' → JW X B n 0 0 75 [(0, vR 34), (1, vI (v1)), (2, vI (v2))] [] (E S) (QM X (QcV (gX X) B n (E S'))) := by
  intro fu
  induction fu with
  | zero =>
    intro v2 S h
    rw [g_X6_refresh_L75] at h
    cases h
  | succ fu ih =>
    intro v2 S h
    rw [g_X6_refresh_L75] at h
    refine j_iload_n hX 2 dX6_refresh_75 rfl rfl ?_
    refine j_aload_n hX 0 dX6_refresh_76 rfl rfl ?_
    refine j_getS (k := 0) hX hfl cbX6 ty34 (by decide) rfl wd272 rfl sb34_0 dX6_refresh_77 ?_
    refine j_getI (k := 1) hX hE cbX5 ty1 pc1 (by decide) rfl wd143 rfl dX6_refresh_80 ?_
    refine j_icmp_ge hX (tgt := 112) dX6_refresh_83 (by decide) (fun hc => ?_) (fun hc => ?_)
    · rw [if_pos hc] at h
      refine j_sub [0, 1] rfl ?_
      exact K112 _ h
    · rw [if_neg hc] at h
      refine j_iconst hX dX6_refresh_86 (rc rfl) ?_
      refine j_istore_n (L' := [(3, vI (0)), (0, vR 34), (1, vI (v1)), (2, vI (v2))]) hX dX6_refresh_87 rfl hnl (by decide) rfl ?_
      refine j_sub [1, 2, 3, 0] rfl ?_
      refine sl_X6_refresh_88 hX hR hfl hnl hE (fun S10 h => ?_) _ _ _ h
      refine j_iinc (L' := [(2, vI (w32 (v2 + 1))), (0, vR 34), (1, vI (v1))]) hX 2 dX6_refresh_106 hnl (by decide) rfl rfl ?_
      refine j_goto hX (tgt := 75) dX6_refresh_109 (by decide) ?_
      refine j_sub [1, 2, 0] rfl ?_
      exact ih _ _ h
theorem sl_X6_refresh_57 {X : K0} {B : Nat → Nat} {n : Nat} {E : Mem → Mem} {S' : Mem} (hX : Ctx X cX6_refresh "TelegramFeelings$Sayings" 5) (hR : CR X none) (hfl : (gX X).2.2.2.2 = true) (hnl : X.2.2.2.2.2.2.2.2.2.2.2.2.2.2 = 4) (hE : Lens E PC)    : ∀ (fu : Nat) (v1 : Int) (S : Mem), g_X6_refresh_L57 fu v1 S = some S' → JW X B n 0 0 57 [(0, vR 34), (1, vI (v1))] [] (E S) (QM X (QcV (gX X) B n (E S'))) := by
  intro fu
  induction fu with
  | zero =>
    intro v1 S h
    rw [g_X6_refresh_L57] at h
    cases h
  | succ fu ih =>
    intro v1 S h
    rw [g_X6_refresh_L57] at h
    refine j_iload_n hX 1 dX6_refresh_57 rfl rfl ?_
    refine j_bipush hX dX6_refresh_58 (rc rfl) (by decide) ?_
    refine j_icmp_ge hX (tgt := 143) dX6_refresh_60 (by decide) (fun hc => ?_) (fun hc => ?_)
    · rw [if_pos hc] at h
      cases h
      exact j_vret hX hR dX6_refresh_143
    · rw [if_neg hc] at h
      refine j_aload_n hX 0 dX6_refresh_63 rfl rfl ?_
      obtain ⟨q7, hg, h⟩ := bs h
      refine j_getR (k := 4) hX hE cbX6 ty34 pc34 (by decide) rfl wd276 rfl hg dX6_refresh_64 ?_
      refine j_ldc2 (z := (-1)) hX wd754 (by decide) dX6_refresh_67 (rcl rfl) ?_
      obtain ⟨S8, h1, h⟩ := bs h
      refine j_callSV hX mwJ7_fill_d0a16 msJ7_fill_d0a16 wd755 hyJ7_fill_d0a16 (by omega) (by decide) ⟨Nat.zero_le _, Nat.zero_le _⟩ dX6_refresh_70 (s_J7_fill_d0a16 hE h1) npJ7_fill_d0a16 rfl (Nat.le_of_ble_eq_true rfl) ?_
      refine j_iconst hX dX6_refresh_73 (rc rfl) ?_
      refine j_istore_n (L' := [(2, vI (0)), (0, vR 34), (1, vI (v1))]) hX dX6_refresh_74 rfl hnl (by decide) rfl ?_
      refine j_sub [1, 2, 0] rfl ?_
      refine sl_X6_refresh_75 hX hR hfl hnl hE (fun S11 h => ?_) _ _ _ h
      refine j_aload_n hX 0 dX6_refresh_112 rfl rfl ?_
      obtain ⟨q12, hg, h⟩ := bs h
      refine j_getR (k := 3) hX hE cbX6 ty34 pc34 (by decide) rfl wd275 rfl hg dX6_refresh_113 ?_
      refine j_astore_n (L' := [(2, vR q12), (0, vR 34), (1, vI (v1))]) hX dX6_refresh_116 rfl hnl (by decide) rfl ?_
      refine j_aload_n hX 1 dX6_refresh_117 rfl rfl ?_
      refine j_aload_n hX 1 dX6_refresh_118 rfl rfl ?_
      obtain ⟨q13, hg, h⟩ := bs h
      refine j_getR (k := 4) hX hE cbX6 ty34 pc34 (by decide) rfl wd276 rfl hg dX6_refresh_119 ?_
      refine j_putR (k := 3) hX hE cbX6 ty34 pc34 (by decide) rfl wd275 rfl (fun _ => rfl) (fun _ => rfl) (fun _ => by decide +kernel) rfl dX6_refresh_122 ?_
      obtain ⟨S14, hx, h⟩ := ap_s h
      rw [← hx]
      clear hx
      refine j_aload_n hX 1 dX6_refresh_125 rfl rfl ?_
      refine j_aload_n hX 0 dX6_refresh_126 rfl rfl ?_
      refine j_putR (k := 4) hX hE cbX6 ty34 pc34 (by decide) rfl wd276 rfl (fun _ => rfl) (fun _ => rfl) (fun _ => by decide +kernel) rfl dX6_refresh_127 ?_
      obtain ⟨S15, hx, h⟩ := ap_s h
      rw [← hx]
      clear hx
      refine j_aload_n hX 1 dX6_refresh_130 rfl rfl ?_
      refine j_iload_n hX 2 dX6_refresh_131 rfl rfl ?_
      refine j_iconst hX dX6_refresh_132 (rc rfl) ?_
      refine j_iadd hX dX6_refresh_133 ?_
      obtain ⟨S16, h1, h⟩ := bs h
      refine j_callVV hX mwX6_settle miX6_settle wd772 cbX6 ty34 hyX6_settle (by omega) (by decide) ⟨Nat.zero_le _, Nat.zero_le _⟩ dX6_refresh_134 (s_X6_settle hfl hE h1) npX6_settle rfl (Nat.le_of_ble_eq_true rfl) ?_
      refine j_iinc (L' := [(1, vI (w32 (v1 + 1))), (2, vR q12), (0, vR 34)]) hX 2 dX6_refresh_137 hnl (by decide) rfl rfl ?_
      refine j_goto hX (tgt := 57) dX6_refresh_140 (by decide) ?_
      refine j_sub [2, 0] rfl ?_
      exact ih _ _ h
theorem s_X6_refresh {g : G0} {B : Nat → Nat} {n : Nat} {E : Mem → Mem}  {S : Mem} {S' : Mem} (hfl : g.2.2.2.2 = true) (hE : Lens E PC) (h : g_X6_refresh S = some S') : Cn g B n yX6_refresh cX6_refresh 4 none 5 [vR 34] (E S) (QcV g B n (E S')) := by
  refine Cn.of (by decide +kernel) (Nat.le_of_ble_eq_true rfl) (fun X hg hnl hX hR => ?_)
  subst hg
  have hX : Ctx X cX6_refresh "TelegramFeelings$Sayings" 5 := hX
  unfold g_X6_refresh at h
  show JW X B n 0 0 0 [(0, vR 34)] [] (E S) (QM X (QcV (gX X) B n (E S')))
  refine j_aload_n hX 0 dX6_refresh_0 rfl rfl ?_
  refine j_getI (k := 5) hX hE cbX6 ty34 pc34 (by decide) rfl wd277 rfl dX6_refresh_1 ?_
  refine j_aload_n hX 0 dX6_refresh_4 rfl rfl ?_
  refine j_getS (k := 0) hX hfl cbX6 ty34 (by decide) rfl wd272 rfl sb34_0 dX6_refresh_5 ?_
  refine j_getI (k := 3) hX hE cbX5 ty1 pc1 (by decide) rfl wd150 rfl dX6_refresh_8 ?_
  refine j_icmp_ne hX (tgt := 15) dX6_refresh_11 (by decide) (fun hc => ?_) (fun hc => ?_)
  · rw [if_neg hc] at h
    refine j_aload_n hX 0 dX6_refresh_15 rfl rfl ?_
    refine j_aload_n hX 0 dX6_refresh_16 rfl rfl ?_
    refine j_getS (k := 0) hX hfl cbX6 ty34 (by decide) rfl wd272 rfl sb34_0 dX6_refresh_17 ?_
    refine j_getI (k := 3) hX hE cbX5 ty1 pc1 (by decide) rfl wd150 rfl dX6_refresh_20 ?_
    refine j_putI (k := 5) hX hE cbX6 ty34 pc34 (by decide) rfl wd277 rfl (Or.inl rfl) rfl dX6_refresh_23 ?_
    obtain ⟨S1, hx, h⟩ := ap_s h
    rw [← hx]
    clear hx
    refine j_aload_n hX 0 dX6_refresh_26 rfl rfl ?_
    refine j_getS (k := 2) hX hfl cbX6 ty34 (by decide) rfl wd274 rfl sb34_2 dX6_refresh_27 ?_
    refine j_ldc2 (z := (-1)) hX wd754 (by decide) dX6_refresh_30 (rcl rfl) ?_
    obtain ⟨S2, h1, h⟩ := bs h
    refine j_callSV hX mwJ7_fill_d0a16 msJ7_fill_d0a16 wd755 hyJ7_fill_d0a16 (by omega) (by decide) ⟨Nat.zero_le _, Nat.zero_le _⟩ dX6_refresh_33 (s_J7_fill_d0a16 hE h1) npJ7_fill_d0a16 rfl (Nat.le_of_ble_eq_true rfl) ?_
    refine j_aload_n hX 0 dX6_refresh_36 rfl rfl ?_
    obtain ⟨q3, hg, h⟩ := bs h
    refine j_getR (k := 3) hX hE cbX6 ty34 pc34 (by decide) rfl wd275 rfl hg dX6_refresh_37 ?_
    refine j_ldc2 (z := (-1)) hX wd754 (by decide) dX6_refresh_40 (rcl rfl) ?_
    obtain ⟨S4, h1, h⟩ := bs h
    refine j_callSV hX mwJ7_fill_d0a16 msJ7_fill_d0a16 wd755 hyJ7_fill_d0a16 (by omega) (by decide) ⟨Nat.zero_le _, Nat.zero_le _⟩ dX6_refresh_43 (s_J7_fill_d0a16 hE h1) npJ7_fill_d0a16 rfl (Nat.le_of_ble_eq_true rfl) ?_
    refine j_aload_n hX 0 dX6_refresh_46 rfl rfl ?_
    obtain ⟨q5, hg, h⟩ := bs h
    refine j_getR (k := 3) hX hE cbX6 ty34 pc34 (by decide) rfl wd275 rfl hg dX6_refresh_47 ?_
    refine j_sipush hX dX6_refresh_50 (rc rfl) (by decide) ?_
    refine j_lconst (z := 0) hX dX6_refresh_53 rfl (rcl rfl) ?_
    obtain ⟨S6, hv, h⟩ := bs h
    refine j_lastD hX hE (fun _ h => h) hv dX6_refresh_54 ?_
    refine j_iconst hX dX6_refresh_55 (rc rfl) ?_
    refine j_istore_n (L' := [(1, vI (0)), (0, vR 34)]) hX dX6_refresh_56 rfl hnl (by decide) rfl ?_
    refine j_sub [1, 0] rfl ?_
    refine sl_X6_refresh_57 hX hR hfl hnl hE  _ _ _ h
  · rw [if_pos hc] at h
    cases h
    exact j_vret hX hR dX6_refresh_14
theorem sl_X6_cheapest_11 {X : K0} {B : Nat → Nat} {n : Nat} {E : Mem → Mem} {r : Int} {S' : Mem} (hX : Ctx X cX6_cheapest "TelegramFeelings$Sayings" 6) (hR : CR X (some .long)) (hfl : (gX X).2.2.2.2 = true) (hnl : X.2.2.2.2.2.2.2.2.2.2.2.2.2.2 = 6) (hE : Lens E PC)  {v1 : Int} {v2 : Int}  : ∀ (fu : Nat) (v3 : Int) (v5 : Int) (S : Mem), g_X6_cheapest_L11 v1 v2 fu v3 v5 S = some (r, S') → JW X B n 0 0 11 [(0, vR 34), (1, vI (v1)), (2, vI (v2)), (3, vL (v3)), (5, vI (v5))] [] (E S) (QM X (QcL (gX X) B n r (E S'))) := by
  intro fu
  induction fu with
  | zero =>
    intro v3 v5 S h
    rw [g_X6_cheapest_L11] at h
    cases h
  | succ fu ih =>
    intro v3 v5 S h
    rw [g_X6_cheapest_L11] at h
    refine j_iload hX 4 dX6_cheapest_11 rfl ?_
    refine j_bipush hX dX6_cheapest_13 (rc rfl) (by decide) ?_
    refine j_icmp_ge hX (tgt := 51) dX6_cheapest_15 (by decide) (fun hc => ?_) (fun hc => ?_)
    · rw [if_pos hc] at h
      refine j_lload_n hX 3 dX6_cheapest_51 rfl rfl ?_
      cases h
      exact j_lret hX hR dX6_cheapest_52
    · rw [if_neg hc] at h
      refine j_iload hX 4 dX6_cheapest_18 rfl ?_
      refine j_iload_n hX 1 dX6_cheapest_20 rfl rfl ?_
      refine j_iand hX dX6_cheapest_21 ?_
      refine j_iload_n hX 1 dX6_cheapest_22 rfl rfl ?_
      refine j_icmp_ne hX (tgt := 45) dX6_cheapest_23 (by decide) (fun hc => ?_) (fun hc => ?_)
      · rw [if_neg hc] at h
        refine j_iinc (L' := [(5, vI (w32 (v5 + 1))), (0, vR 34), (1, vI (v1)), (2, vI (v2)), (3, vL (v3))]) hX 4 dX6_cheapest_45 hnl (by decide) rfl rfl ?_
        refine j_goto hX (tgt := 11) dX6_cheapest_48 (by decide) ?_
        refine j_sub [1, 2, 3, 4, 0] rfl ?_
        exact ih _ _ _ h
      · rw [if_pos hc] at h
        refine j_iload hX 4 dX6_cheapest_26 rfl ?_
        refine j_iload_n hX 2 dX6_cheapest_28 rfl rfl ?_
        refine j_iand hX dX6_cheapest_29 ?_
        refine j_if_ne hX (tgt := 45) dX6_cheapest_30 (by decide) (fun hc => ?_) (fun hc => ?_)
        · rw [if_neg hc] at h
          refine j_iinc (L' := [(5, vI (w32 (v5 + 1))), (0, vR 34), (1, vI (v1)), (2, vI (v2)), (3, vL (v3))]) hX 4 dX6_cheapest_45 hnl (by decide) rfl rfl ?_
          refine j_goto hX (tgt := 11) dX6_cheapest_48 (by decide) ?_
          refine j_sub [1, 2, 3, 4, 0] rfl ?_
          exact ih _ _ _ h
        · rw [if_pos hc] at h
          refine j_lload_n hX 3 dX6_cheapest_33 rfl rfl ?_
          refine j_aload_n hX 0 dX6_cheapest_34 rfl rfl ?_
          refine j_getS (k := 2) hX hfl cbX6 ty34 (by decide) rfl wd274 rfl sb34_2 dX6_cheapest_35 ?_
          refine j_iload hX 4 dX6_cheapest_38 rfl ?_
          obtain ⟨x2, hv, h⟩ := bs h
          refine j_lald hX hE ty35 pc35 hv dX6_cheapest_40 ?_
          refine j_callSL hX mwX6_firstOf msX6_firstOf wd766 hyX6_firstOf (by omega) (by decide) ⟨Nat.zero_le _, Nat.zero_le _⟩ dX6_cheapest_41 (s_X6_firstOf hfl rfl) npX6_firstOf rfl (Nat.le_of_ble_eq_true rfl) ?_
          refine j_lstore_n (L' := [(3, vL (g_X6_firstOf v3 x2)), (0, vR 34), (1, vI (v1)), (2, vI (v2)), (5, vI (v5))]) hX dX6_cheapest_44 rfl hnl (by decide) rfl ?_
          refine j_iinc (L' := [(5, vI (w32 (v5 + 1))), (3, vL (g_X6_firstOf v3 x2)), (0, vR 34), (1, vI (v1)), (2, vI (v2))]) hX 4 dX6_cheapest_45 hnl (by decide) rfl rfl ?_
          refine j_goto hX (tgt := 11) dX6_cheapest_48 (by decide) ?_
          refine j_sub [2, 3, 4, 1, 0] rfl ?_
          exact ih _ _ _ h
theorem s_X6_cheapest {g : G0} {B : Nat → Nat} {n : Nat} {E : Mem → Mem} {a1 : Int} {a2 : Int} {S : Mem} {r : Int} {S' : Mem} (hfl : g.2.2.2.2 = true) (hE : Lens E PC) (h : g_X6_cheapest a1 a2 S = some (r, S')) : Cn g B n yX6_cheapest cX6_cheapest 6 (some .long) 6 [vR 34, vI (a1), vI (a2)] (E S) (QcL g B n r (E S')) := by
  refine Cn.of (by decide +kernel) (Nat.le_of_ble_eq_true rfl) (fun X hg hnl hX hR => ?_)
  subst hg
  have hX : Ctx X cX6_cheapest "TelegramFeelings$Sayings" 6 := hX
  unfold g_X6_cheapest at h
  show JW X B n 0 0 0 [(0, vR 34), (1, vI (a1)), (2, vI (a2))] [] (E S) (QM X (QcL (gX X) B n r (E S')))
  refine j_aload_n hX 0 dX6_cheapest_0 rfl rfl ?_
  obtain ⟨S1, h1, h⟩ := bs h
  refine j_callVV hX mwX6_refresh miX6_refresh wd750 cbX6 ty34 hyX6_refresh (by omega) (by decide) ⟨Nat.zero_le _, Nat.zero_le _⟩ dX6_cheapest_1 (s_X6_refresh hfl hE h1) npX6_refresh rfl (Nat.le_of_ble_eq_true rfl) ?_
  refine j_ldc2 (z := (-1)) hX wd754 (by decide) dX6_cheapest_4 (rcl rfl) ?_
  refine j_lstore_n (L' := [(3, vL ((-1))), (0, vR 34), (1, vI (a1)), (2, vI (a2))]) hX dX6_cheapest_7 rfl hnl (by decide) rfl ?_
  refine j_iconst hX dX6_cheapest_8 (rc rfl) ?_
  refine j_istore (L' := [(5, vI (0)), (3, vL ((-1))), (0, vR 34), (1, vI (a1)), (2, vI (a2))]) hX dX6_cheapest_9 hnl (by decide) rfl ?_
  refine j_sub [2, 3, 4, 1, 0] rfl ?_
  refine sl_X6_cheapest_11 hX hR hfl hnl hE  _ _ _ _ h
theorem s_J6_bitCount_0f7a4 {g : G0} {B : Nat → Nat} {n : Nat} {M : Mem} {a1 : Int} {r : Int} (h : g_J6_bitCount_0f7a4 a1 = r) : Cn g B n yJ6_bitCount_0f7a4 cJ6_bitCount_0f7a4 1 (some .int) 1 [vI (a1)] M (QcI g B n r M) := by
  refine Cn.of (by decide +kernel) (Nat.le_of_ble_eq_true rfl) (fun X hg hnl hX hR => ?_)
  subst hg
  have hX : Ctx X cJ6_bitCount_0f7a4 "java/lang/Integer" 1 := hX
  unfold g_J6_bitCount_0f7a4 at h
  show JW X B n 0 0 0 [(0, vI (a1))] [] (M) (QM X (QcI (gX X) B n r M))
  refine j_iload_n hX 0 dJ6_bitCount_0f7a4_0 rfl rfl ?_
  refine j_iload_n hX 0 dJ6_bitCount_0f7a4_1 rfl rfl ?_
  refine j_iconst hX dJ6_bitCount_0f7a4_2 (rc rfl) ?_
  refine j_iushr hX dJ6_bitCount_0f7a4_3 ?_
  refine j_ldcw (z := 1431655765) hX wd804 (by decide) dJ6_bitCount_0f7a4_4 (rc rfl) ?_
  refine j_iand hX dJ6_bitCount_0f7a4_7 ?_
  refine j_isub hX dJ6_bitCount_0f7a4_8 ?_
  obtain ⟨x1, hx, h⟩ := ap_s h
  rw [← hx]
  clear hx
  refine j_istore_n (L' := [(0, vI (x1))]) hX dJ6_bitCount_0f7a4_9 rfl hnl (by decide) rfl ?_
  refine j_iload_n hX 0 dJ6_bitCount_0f7a4_10 rfl rfl ?_
  refine j_ldcw (z := 858993459) hX wd805 (by decide) dJ6_bitCount_0f7a4_11 (rc rfl) ?_
  refine j_iand hX dJ6_bitCount_0f7a4_14 ?_
  refine j_iload_n hX 0 dJ6_bitCount_0f7a4_15 rfl rfl ?_
  refine j_iconst hX dJ6_bitCount_0f7a4_16 (rc rfl) ?_
  refine j_iushr hX dJ6_bitCount_0f7a4_17 ?_
  refine j_ldcw (z := 858993459) hX wd805 (by decide) dJ6_bitCount_0f7a4_18 (rc rfl) ?_
  refine j_iand hX dJ6_bitCount_0f7a4_21 ?_
  refine j_iadd hX dJ6_bitCount_0f7a4_22 ?_
  obtain ⟨x2, hx, h⟩ := ap_s h
  rw [← hx]
  clear hx
  refine j_istore_n (L' := [(0, vI (x2))]) hX dJ6_bitCount_0f7a4_23 rfl hnl (by decide) rfl ?_
  refine j_iload_n hX 0 dJ6_bitCount_0f7a4_24 rfl rfl ?_
  refine j_iload_n hX 0 dJ6_bitCount_0f7a4_25 rfl rfl ?_
  refine j_iconst hX dJ6_bitCount_0f7a4_26 (rc rfl) ?_
  refine j_iushr hX dJ6_bitCount_0f7a4_27 ?_
  refine j_iadd hX dJ6_bitCount_0f7a4_28 ?_
  refine j_ldcw (z := 252645135) hX wd806 (by decide) dJ6_bitCount_0f7a4_29 (rc rfl) ?_
  refine j_iand hX dJ6_bitCount_0f7a4_32 ?_
  obtain ⟨x3, hx, h⟩ := ap_s h
  rw [← hx]
  clear hx
  refine j_istore_n (L' := [(0, vI (x3))]) hX dJ6_bitCount_0f7a4_33 rfl hnl (by decide) rfl ?_
  refine j_iload_n hX 0 dJ6_bitCount_0f7a4_34 rfl rfl ?_
  refine j_iload_n hX 0 dJ6_bitCount_0f7a4_35 rfl rfl ?_
  refine j_bipush hX dJ6_bitCount_0f7a4_36 (rc rfl) (by decide) ?_
  refine j_iushr hX dJ6_bitCount_0f7a4_38 ?_
  refine j_iadd hX dJ6_bitCount_0f7a4_39 ?_
  refine j_istore_n (L' := [(0, vI (w32 (x3 + (o_ush x3 8))))]) hX dJ6_bitCount_0f7a4_40 rfl hnl (by decide) rfl ?_
  refine j_iload_n hX 0 dJ6_bitCount_0f7a4_41 rfl rfl ?_
  refine j_iload_n hX 0 dJ6_bitCount_0f7a4_42 rfl rfl ?_
  refine j_bipush hX dJ6_bitCount_0f7a4_43 (rc rfl) (by decide) ?_
  refine j_iushr hX dJ6_bitCount_0f7a4_45 ?_
  refine j_iadd hX dJ6_bitCount_0f7a4_46 ?_
  obtain ⟨x4, hx, h⟩ := ap_s h
  rw [← hx]
  clear hx
  refine j_istore_n (L' := [(0, vI (x4))]) hX dJ6_bitCount_0f7a4_47 rfl hnl (by decide) rfl ?_
  refine j_iload_n hX 0 dJ6_bitCount_0f7a4_48 rfl rfl ?_
  refine j_bipush hX dJ6_bitCount_0f7a4_49 (rc rfl) (by decide) ?_
  refine j_iand hX dJ6_bitCount_0f7a4_51 ?_
  subst h
  exact j_iret hX hR dJ6_bitCount_0f7a4_52
theorem s_X6_isFor {g : G0} {B : Nat → Nat} {n : Nat} {E : Mem → Mem} {a1 : Int} {a2 : Int} {S : Mem} {r : Int} (hfl : g.2.2.2.2 = true) (hE : Lens E PC) (h : g_X6_isFor a1 a2 S = some r) : Cn g B n yX6_isFor cX6_isFor 3 (some .boolean) 2 [vR 34, vI (a1), vI (a2)] (E S) (QcI g B n r (E S)) := by
  refine Cn.of (by decide +kernel) (Nat.le_of_ble_eq_true rfl) (fun X hg hnl hX hR => ?_)
  subst hg
  have hX : Ctx X cX6_isFor "TelegramFeelings$Sayings" 2 := hX
  unfold g_X6_isFor at h
  show JW X B n 0 0 0 [(0, vR 34), (1, vI (a1)), (2, vI (a2))] [] (E S) (QM X (QcI (gX X) B n r (E S)))
  refine j_iload_n hX 1 dX6_isFor_0 rfl rfl ?_
  refine j_if_lt hX (tgt := 38) dX6_isFor_1 (by decide) (fun hc => ?_) (fun hc => ?_)
  · rw [if_pos hc] at h
    refine j_iconst hX dX6_isFor_38 (rc rfl) ?_
    cases h
    exact j_zret hX hR (Or.inl rfl) dX6_isFor_39
  · rw [if_neg hc] at h
    refine j_iload_n hX 1 dX6_isFor_4 rfl rfl ?_
    refine j_bipush hX dX6_isFor_5 (rc rfl) (by decide) ?_
    refine j_icmp_ge hX (tgt := 38) dX6_isFor_7 (by decide) (fun hc => ?_) (fun hc => ?_)
    · rw [if_pos hc] at h
      refine j_iconst hX dX6_isFor_38 (rc rfl) ?_
      cases h
      exact j_zret hX hR (Or.inl rfl) dX6_isFor_39
    · rw [if_neg hc] at h
      refine j_aload_n hX 0 dX6_isFor_10 rfl rfl ?_
      refine j_getS (k := 2) hX hfl cbX6 ty34 (by decide) rfl wd274 rfl sb34_2 dX6_isFor_11 ?_
      refine j_iload_n hX 1 dX6_isFor_14 rfl rfl ?_
      obtain ⟨x1, hv, h⟩ := bs h
      refine j_lald hX hE ty35 pc35 hv dX6_isFor_15 ?_
      refine j_lconst (z := 0) hX dX6_isFor_16 rfl (rcl rfl) ?_
      refine j_lcmp hX dX6_isFor_17 ?_
      refine j_if_lt hX (tgt := 38) dX6_isFor_18 (by decide) (fun hc => ?_) (fun hc => ?_)
      · rw [if_pos hc] at h
        refine j_iconst hX dX6_isFor_38 (rc rfl) ?_
        cases h
        exact j_zret hX hR (Or.inl rfl) dX6_isFor_39
      · rw [if_neg hc] at h
        refine j_aload_n hX 0 dX6_isFor_21 rfl rfl ?_
        refine j_getS (k := 2) hX hfl cbX6 ty34 (by decide) rfl wd274 rfl sb34_2 dX6_isFor_22 ?_
        refine j_iload_n hX 1 dX6_isFor_25 rfl rfl ?_
        obtain ⟨x2, hv, h⟩ := bs h
        refine j_lald hX hE ty35 pc35 hv dX6_isFor_26 ?_
        refine j_callSI hX mwX6_priceIn msX6_priceIn wd800 hyX6_priceIn (by omega) (by decide) ⟨Nat.zero_le _, Nat.zero_le _⟩ dX6_isFor_27 (s_X6_priceIn hfl rfl) npX6_priceIn rfl (Nat.le_of_ble_eq_true rfl) ?_
        refine j_iload_n hX 2 dX6_isFor_30 rfl rfl ?_
        refine j_icmp_gt hX (tgt := 38) dX6_isFor_31 (by decide) (fun hc => ?_) (fun hc => ?_)
        · rw [if_pos hc] at h
          refine j_iconst hX dX6_isFor_38 (rc rfl) ?_
          cases h
          exact j_zret hX hR (Or.inl rfl) dX6_isFor_39
        · rw [if_neg hc] at h
          refine j_iconst hX dX6_isFor_34 (rc rfl) ?_
          refine j_goto hX (tgt := 39) dX6_isFor_35 (by decide) ?_
          cases h
          exact j_zret hX hR (Or.inr rfl) dX6_isFor_39
theorem sl_X6_widest_8 {X : K0} {B : Nat → Nat} {n : Nat} {E : Mem → Mem} {r : Int} {S' : Mem} (hX : Ctx X cX6_widest "TelegramFeelings$Sayings" 6) (hR : CR X (some .int)) (hfl : (gX X).2.2.2.2 = true) (hnl : X.2.2.2.2.2.2.2.2.2.2.2.2.2.2 = 4) (hE : Lens E PC)  {v1 : Int}  : ∀ (fu : Nat) (v2 : Int) (v3 : Int) (S : Mem), g_X6_widest_L8 v1 fu v2 v3 S = some (r, S') → JW X B n 0 0 8 [(0, vR 34), (1, vI (v1)), (2, vI (v2)), (3, vI (v3))] [] (E S) (QM X (QcI (gX X) B n r (E S'))) := by
  intro fu
  induction fu with
  | zero =>
    intro v2 v3 S h
    rw [g_X6_widest_L8] at h
    cases h
  | succ fu ih =>
    intro v2 v3 S h
    rw [g_X6_widest_L8] at h
    refine j_iload_n hX 3 dX6_widest_8 rfl rfl ?_
    refine j_bipush hX dX6_widest_9 (rc rfl) (by decide) ?_
    refine j_icmp_ge hX (tgt := 46) dX6_widest_11 (by decide) (fun hc => ?_) (fun hc => ?_)
    · rw [if_pos hc] at h
      refine j_iload_n hX 2 dX6_widest_46 rfl rfl ?_
      cases h
      exact j_iret hX hR dX6_widest_47
    · rw [if_neg hc] at h
      refine j_aload_n hX 0 dX6_widest_14 rfl rfl ?_
      refine j_iload_n hX 3 dX6_widest_15 rfl rfl ?_
      refine j_iload_n hX 1 dX6_widest_16 rfl rfl ?_
      obtain ⟨x2, h1, h⟩ := bs h
      refine j_callVI hX mwX6_isFor miX6_isFor wd796 cbX6 ty34 hyX6_isFor (by omega) (by decide) ⟨Nat.zero_le _, Nat.zero_le _⟩ dX6_widest_17 (s_X6_isFor hfl hE h1) npX6_isFor rfl (Nat.le_of_ble_eq_true rfl) ?_
      refine j_if_eq hX (tgt := 40) dX6_widest_20 (by decide) (fun hc => ?_) (fun hc => ?_)
      · rw [if_pos hc] at h
        refine j_iinc (L' := [(3, vI (w32 (v3 + 1))), (0, vR 34), (1, vI (v1)), (2, vI (v2))]) hX 3 dX6_widest_40 hnl (by decide) rfl rfl ?_
        refine j_goto hX (tgt := 8) dX6_widest_43 (by decide) ?_
        refine j_sub [1, 2, 3, 0] rfl ?_
        exact ih _ _ _ h
      · rw [if_neg hc] at h
        refine j_iload_n hX 2 dX6_widest_23 rfl rfl ?_
        refine j_if_lt hX (tgt := 38) dX6_widest_24 (by decide) (fun hc => ?_) (fun hc => ?_)
        · rw [if_pos hc] at h
          refine j_iload_n hX 3 dX6_widest_38 rfl rfl ?_
          refine j_istore_n (L' := [(2, vI (v3)), (0, vR 34), (1, vI (v1)), (3, vI (v3))]) hX dX6_widest_39 rfl hnl (by decide) rfl ?_
          refine j_iinc (L' := [(3, vI (w32 (v3 + 1))), (2, vI (v3)), (0, vR 34), (1, vI (v1))]) hX 3 dX6_widest_40 hnl (by decide) rfl rfl ?_
          refine j_goto hX (tgt := 8) dX6_widest_43 (by decide) ?_
          refine j_sub [2, 3, 1, 0] rfl ?_
          exact ih _ _ _ h
        · rw [if_neg hc] at h
          refine j_iload_n hX 3 dX6_widest_27 rfl rfl ?_
          refine j_callSI hX mwJ6_bitCount_0f7a4 msJ6_bitCount_0f7a4 wd801 hyJ6_bitCount_0f7a4 (by omega) (by decide) ⟨Nat.zero_le _, Nat.zero_le _⟩ dX6_widest_28 (s_J6_bitCount_0f7a4 rfl) npJ6_bitCount_0f7a4 rfl (Nat.le_of_ble_eq_true rfl) ?_
          refine j_iload_n hX 2 dX6_widest_31 rfl rfl ?_
          refine j_callSI hX mwJ6_bitCount_0f7a4 msJ6_bitCount_0f7a4 wd801 hyJ6_bitCount_0f7a4 (by omega) (by decide) ⟨Nat.zero_le _, Nat.zero_le _⟩ dX6_widest_32 (s_J6_bitCount_0f7a4 rfl) npJ6_bitCount_0f7a4 rfl (Nat.le_of_ble_eq_true rfl) ?_
          refine j_icmp_le hX (tgt := 40) dX6_widest_35 (by decide) (fun hc => ?_) (fun hc => ?_)
          · rw [if_pos hc] at h
            refine j_iinc (L' := [(3, vI (w32 (v3 + 1))), (0, vR 34), (1, vI (v1)), (2, vI (v2))]) hX 3 dX6_widest_40 hnl (by decide) rfl rfl ?_
            refine j_goto hX (tgt := 8) dX6_widest_43 (by decide) ?_
            refine j_sub [1, 2, 3, 0] rfl ?_
            exact ih _ _ _ h
          · rw [if_neg hc] at h
            refine j_iload_n hX 3 dX6_widest_38 rfl rfl ?_
            refine j_istore_n (L' := [(2, vI (v3)), (0, vR 34), (1, vI (v1)), (3, vI (v3))]) hX dX6_widest_39 rfl hnl (by decide) rfl ?_
            refine j_iinc (L' := [(3, vI (w32 (v3 + 1))), (2, vI (v3)), (0, vR 34), (1, vI (v1))]) hX 3 dX6_widest_40 hnl (by decide) rfl rfl ?_
            refine j_goto hX (tgt := 8) dX6_widest_43 (by decide) ?_
            refine j_sub [2, 3, 1, 0] rfl ?_
            exact ih _ _ _ h
theorem s_X6_widest {g : G0} {B : Nat → Nat} {n : Nat} {E : Mem → Mem} {a1 : Int} {S : Mem} {r : Int} {S' : Mem} (hfl : g.2.2.2.2 = true) (hE : Lens E PC) (h : g_X6_widest a1 S = some (r, S')) : Cn g B n yX6_widest cX6_widest 4 (some .int) 6 [vR 34, vI (a1)] (E S) (QcI g B n r (E S')) := by
  refine Cn.of (by decide +kernel) (Nat.le_of_ble_eq_true rfl) (fun X hg hnl hX hR => ?_)
  subst hg
  have hX : Ctx X cX6_widest "TelegramFeelings$Sayings" 6 := hX
  unfold g_X6_widest at h
  show JW X B n 0 0 0 [(0, vR 34), (1, vI (a1))] [] (E S) (QM X (QcI (gX X) B n r (E S')))
  refine j_aload_n hX 0 dX6_widest_0 rfl rfl ?_
  obtain ⟨S1, h1, h⟩ := bs h
  refine j_callVV hX mwX6_refresh miX6_refresh wd750 cbX6 ty34 hyX6_refresh (by omega) (by decide) ⟨Nat.zero_le _, Nat.zero_le _⟩ dX6_widest_1 (s_X6_refresh hfl hE h1) npX6_refresh rfl (Nat.le_of_ble_eq_true rfl) ?_
  refine j_iconst hX dX6_widest_4 (rc rfl) ?_
  refine j_istore_n (L' := [(2, vI ((-1))), (0, vR 34), (1, vI (a1))]) hX dX6_widest_5 rfl hnl (by decide) rfl ?_
  refine j_iconst hX dX6_widest_6 (rc rfl) ?_
  refine j_istore_n (L' := [(3, vI (0)), (2, vI ((-1))), (0, vR 34), (1, vI (a1))]) hX dX6_widest_7 rfl hnl (by decide) rfl ?_
  refine j_sub [2, 3, 1, 0] rfl ?_
  refine sl_X6_widest_8 hX hR hfl hnl hE  _ _ _ _ h
theorem sl_X6_within_8 {X : K0} {B : Nat → Nat} {n : Nat} {E : Mem → Mem} {r : Int} {S' : Mem} (hX : Ctx X cX6_within "TelegramFeelings$Sayings" 6) (hR : CR X (some .int)) (hfl : (gX X).2.2.2.2 = true) (hnl : X.2.2.2.2.2.2.2.2.2.2.2.2.2.2 = 4) (hE : Lens E PC)  {v1 : Int}  : ∀ (fu : Nat) (v2 : Int) (v3 : Int) (S : Mem), g_X6_within_L8 v1 fu v2 v3 S = some (r, S') → JW X B n 0 0 8 [(0, vR 34), (1, vI (v1)), (2, vI (v2)), (3, vI (v3))] [] (E S) (QM X (QcI (gX X) B n r (E S'))) := by
  intro fu
  induction fu with
  | zero =>
    intro v2 v3 S h
    rw [g_X6_within_L8] at h
    cases h
  | succ fu ih =>
    intro v2 v3 S h
    rw [g_X6_within_L8] at h
    refine j_iload_n hX 3 dX6_within_8 rfl rfl ?_
    refine j_bipush hX dX6_within_9 (rc rfl) (by decide) ?_
    refine j_icmp_ge hX (tgt := 37) dX6_within_11 (by decide) (fun hc => ?_) (fun hc => ?_)
    · rw [if_pos hc] at h
      refine j_iload_n hX 2 dX6_within_37 rfl rfl ?_
      cases h
      exact j_iret hX hR dX6_within_38
    · rw [if_neg hc] at h
      refine j_iload_n hX 2 dX6_within_14 rfl rfl ?_
      refine j_aload_n hX 0 dX6_within_15 rfl rfl ?_
      refine j_iload_n hX 3 dX6_within_16 rfl rfl ?_
      refine j_iload_n hX 1 dX6_within_17 rfl rfl ?_
      obtain ⟨x2, h1, h⟩ := bs h
      refine j_callVI hX mwX6_isFor miX6_isFor wd796 cbX6 ty34 hyX6_isFor (by omega) (by decide) ⟨Nat.zero_le _, Nat.zero_le _⟩ dX6_within_18 (s_X6_isFor hfl hE h1) npX6_isFor rfl (Nat.le_of_ble_eq_true rfl) ?_
      refine j_if_eq hX (tgt := 28) dX6_within_21 (by decide) (fun hc => ?_) (fun hc => ?_)
      · rw [if_pos hc] at h
        refine j_iconst hX dX6_within_28 (rc rfl) ?_
        refine j_ior hX dX6_within_29 ?_
        refine j_istore_n (L' := [(2, vI (o_or v2 0)), (0, vR 34), (1, vI (v1)), (3, vI (v3))]) hX dX6_within_30 rfl hnl (by decide) rfl ?_
        refine j_iinc (L' := [(3, vI (w32 (v3 + 1))), (2, vI (o_or v2 0)), (0, vR 34), (1, vI (v1))]) hX 3 dX6_within_31 hnl (by decide) rfl rfl ?_
        refine j_goto hX (tgt := 8) dX6_within_34 (by decide) ?_
        refine j_sub [2, 3, 1, 0] rfl ?_
        exact ih _ _ _ h
      · rw [if_neg hc] at h
        refine j_iload_n hX 3 dX6_within_24 rfl rfl ?_
        refine j_goto hX (tgt := 29) dX6_within_25 (by decide) ?_
        refine j_ior hX dX6_within_29 ?_
        refine j_istore_n (L' := [(2, vI (o_or v2 v3)), (0, vR 34), (1, vI (v1)), (3, vI (v3))]) hX dX6_within_30 rfl hnl (by decide) rfl ?_
        refine j_iinc (L' := [(3, vI (w32 (v3 + 1))), (2, vI (o_or v2 v3)), (0, vR 34), (1, vI (v1))]) hX 3 dX6_within_31 hnl (by decide) rfl rfl ?_
        refine j_goto hX (tgt := 8) dX6_within_34 (by decide) ?_
        refine j_sub [2, 3, 1, 0] rfl ?_
        exact ih _ _ _ h
theorem s_X6_within {g : G0} {B : Nat → Nat} {n : Nat} {E : Mem → Mem} {a1 : Int} {S : Mem} {r : Int} {S' : Mem} (hfl : g.2.2.2.2 = true) (hE : Lens E PC) (h : g_X6_within a1 S = some (r, S')) : Cn g B n yX6_within cX6_within 4 (some .int) 6 [vR 34, vI (a1)] (E S) (QcI g B n r (E S')) := by
  refine Cn.of (by decide +kernel) (Nat.le_of_ble_eq_true rfl) (fun X hg hnl hX hR => ?_)
  subst hg
  have hX : Ctx X cX6_within "TelegramFeelings$Sayings" 6 := hX
  unfold g_X6_within at h
  show JW X B n 0 0 0 [(0, vR 34), (1, vI (a1))] [] (E S) (QM X (QcI (gX X) B n r (E S')))
  refine j_aload_n hX 0 dX6_within_0 rfl rfl ?_
  obtain ⟨S1, h1, h⟩ := bs h
  refine j_callVV hX mwX6_refresh miX6_refresh wd750 cbX6 ty34 hyX6_refresh (by omega) (by decide) ⟨Nat.zero_le _, Nat.zero_le _⟩ dX6_within_1 (s_X6_refresh hfl hE h1) npX6_refresh rfl (Nat.le_of_ble_eq_true rfl) ?_
  refine j_iconst hX dX6_within_4 (rc rfl) ?_
  refine j_istore_n (L' := [(2, vI (0)), (0, vR 34), (1, vI (a1))]) hX dX6_within_5 rfl hnl (by decide) rfl ?_
  refine j_iconst hX dX6_within_6 (rc rfl) ?_
  refine j_istore_n (L' := [(3, vI (0)), (2, vI (0)), (0, vR 34), (1, vI (a1))]) hX dX6_within_7 rfl hnl (by decide) rfl ?_
  refine j_sub [2, 3, 1, 0] rfl ?_
  refine sl_X6_within_8 hX hR hfl hnl hE  _ _ _ _ h
theorem s_X7_has {g : G0} {B : Nat → Nat} {n : Nat} {M : Mem} {a1 : Int} {r : Int} (hfl : g.2.2.2.2 = true) (h : g_X7_has a1 = r) : Cn g B n yX7_has cX7_has 2 (some .boolean) 1 [vR 19, vI (a1)] M (QcI g B n r M) := by
  refine Cn.of (by decide +kernel) (Nat.le_of_ble_eq_true rfl) (fun X hg hnl hX hR => ?_)
  subst hg
  have hX : Ctx X cX7_has "TelegramFeelings$Shelves" 1 := hX
  unfold g_X7_has at h
  show JW X B n 0 0 0 [(0, vR 19), (1, vI (a1))] [] (M) (QM X (QcI (gX X) B n r M))
  refine j_iload_n hX 1 dX7_has_0 rfl rfl ?_
  refine j_if_lt hX (tgt := 14) dX7_has_1 (by decide) (fun hc => ?_) (fun hc => ?_)
  · rw [if_pos hc] at h
    refine j_iconst hX dX7_has_14 (rc rfl) ?_
    subst h
    exact j_zret hX hR (Or.inl rfl) dX7_has_15
  · rw [if_neg hc] at h
    refine j_iload_n hX 1 dX7_has_4 rfl rfl ?_
    refine j_bipush hX dX7_has_5 (rc rfl) (by decide) ?_
    refine j_icmp_ge hX (tgt := 14) dX7_has_7 (by decide) (fun hc => ?_) (fun hc => ?_)
    · rw [if_pos hc] at h
      refine j_iconst hX dX7_has_14 (rc rfl) ?_
      subst h
      exact j_zret hX hR (Or.inl rfl) dX7_has_15
    · rw [if_neg hc] at h
      refine j_iconst hX dX7_has_10 (rc rfl) ?_
      refine j_goto hX (tgt := 15) dX7_has_11 (by decide) ?_
      subst h
      exact j_zret hX hR (Or.inr rfl) dX7_has_15
theorem s_X7_refusal {g : G0} {B : Nat → Nat} {n : Nat} {E : Mem → Mem} {a1 : Int} {a2 : Int} {S : Mem} {r : Int} (hfl : g.2.2.2.2 = true) (hE : Lens E PC) (h : g_X7_refusal a1 a2 S = some r) : Cn g B n yX7_refusal cX7_refusal 3 (some .int) 2 [vR 19, vI (a1), vI (a2)] (E S) (QcI g B n r (E S)) := by
  refine Cn.of (by decide +kernel) (Nat.le_of_ble_eq_true rfl) (fun X hg hnl hX hR => ?_)
  subst hg
  have hX : Ctx X cX7_refusal "TelegramFeelings$Shelves" 2 := hX
  unfold g_X7_refusal at h
  show JW X B n 0 0 0 [(0, vR 19), (1, vI (a1)), (2, vI (a2))] [] (E S) (QM X (QcI (gX X) B n r (E S)))
  refine j_aload_n hX 0 dX7_refusal_0 rfl rfl ?_
  refine j_iload_n hX 1 dX7_refusal_1 rfl rfl ?_
  refine j_callVI hX mwX7_has miX7_has wd468 cbX7 ty19 hyX7_has (by omega) (by decide) ⟨Nat.zero_le _, Nat.zero_le _⟩ dX7_refusal_2 (s_X7_has hfl rfl) npX7_has rfl (Nat.le_of_ble_eq_true rfl) ?_
  refine j_if_ne hX (tgt := 10) dX7_refusal_5 (by decide) (fun hc => ?_) (fun hc => ?_)
  · rw [if_neg hc] at h
    refine j_aload_n hX 0 dX7_refusal_10 rfl rfl ?_
    refine j_getS (k := 0) hX hfl cbX7 ty19 (by decide) rfl wd225 rfl sb19_0 dX7_refusal_11 ?_
    refine j_iload_n hX 1 dX7_refusal_14 rfl rfl ?_
    obtain ⟨x1, hv, h⟩ := bs h
    refine j_iald hX hE ty20 pc20 hv dX7_refusal_15 ?_
    refine j_iconst hX dX7_refusal_16 (rc rfl) ?_
    refine j_icmp_ne hX (tgt := 23) dX7_refusal_17 (by decide) (fun hc => ?_) (fun hc => ?_)
    · rw [if_neg hc] at h
      refine j_aload_n hX 0 dX7_refusal_23 rfl rfl ?_
      refine j_getS (k := 0) hX hfl cbX7 ty19 (by decide) rfl wd225 rfl sb19_0 dX7_refusal_24 ?_
      refine j_iload_n hX 1 dX7_refusal_27 rfl rfl ?_
      obtain ⟨x2, hv, h⟩ := bs h
      refine j_iald hX hE ty20 pc20 hv dX7_refusal_28 ?_
      refine j_iload_n hX 2 dX7_refusal_29 rfl rfl ?_
      refine j_icmp_ne hX (tgt := 37) dX7_refusal_30 (by decide) (fun hc => ?_) (fun hc => ?_)
      · rw [if_neg hc] at h
        refine j_bipush hX dX7_refusal_37 (rc rfl) (by decide) ?_
        cases h
        exact j_iret hX hR dX7_refusal_39
      · rw [if_pos hc] at h
        refine j_iconst hX dX7_refusal_33 (rc rfl) ?_
        refine j_goto hX (tgt := 39) dX7_refusal_34 (by decide) ?_
        cases h
        exact j_iret hX hR dX7_refusal_39
    · rw [if_pos hc] at h
      refine j_bipush hX dX7_refusal_20 (rc rfl) (by decide) ?_
      cases h
      exact j_iret hX hR dX7_refusal_22
  · rw [if_pos hc] at h
    refine j_iconst hX dX7_refusal_8 (rc rfl) ?_
    cases h
    exact j_iret hX hR dX7_refusal_9
theorem s_X7_placeRefusal {g : G0} {B : Nat → Nat} {n : Nat} {E : Mem → Mem} {a1 : Int} {a2 : Int} {S : Mem} {r : Int} (hfl : g.2.2.2.2 = true) (hE : Lens E PC) (h : g_X7_placeRefusal a1 a2 S = some r) : Cn g B n yX7_placeRefusal cX7_placeRefusal 3 (some .int) 2 [vR 19, vI (a1), vI (a2)] (E S) (QcI g B n r (E S)) := by
  refine Cn.of (by decide +kernel) (Nat.le_of_ble_eq_true rfl) (fun X hg hnl hX hR => ?_)
  subst hg
  have hX : Ctx X cX7_placeRefusal "TelegramFeelings$Shelves" 2 := hX
  unfold g_X7_placeRefusal at h
  show JW X B n 0 0 0 [(0, vR 19), (1, vI (a1)), (2, vI (a2))] [] (E S) (QM X (QcI (gX X) B n r (E S)))
  refine j_aload_n hX 0 dX7_placeRefusal_0 rfl rfl ?_
  refine j_iload_n hX 1 dX7_placeRefusal_1 rfl rfl ?_
  refine j_callVI hX mwX7_has miX7_has wd468 cbX7 ty19 hyX7_has (by omega) (by decide) ⟨Nat.zero_le _, Nat.zero_le _⟩ dX7_placeRefusal_2 (s_X7_has hfl rfl) npX7_has rfl (Nat.le_of_ble_eq_true rfl) ?_
  refine j_if_ne hX (tgt := 10) dX7_placeRefusal_5 (by decide) (fun hc => ?_) (fun hc => ?_)
  · rw [if_neg hc] at h
    refine j_aload_n hX 0 dX7_placeRefusal_10 rfl rfl ?_
    refine j_getS (k := 0) hX hfl cbX7 ty19 (by decide) rfl wd225 rfl sb19_0 dX7_placeRefusal_11 ?_
    refine j_iload_n hX 1 dX7_placeRefusal_14 rfl rfl ?_
    obtain ⟨x1, hv, h⟩ := bs h
    refine j_iald hX hE ty20 pc20 hv dX7_placeRefusal_15 ?_
    refine j_iconst hX dX7_placeRefusal_16 (rc rfl) ?_
    refine j_icmp_ne hX (tgt := 23) dX7_placeRefusal_17 (by decide) (fun hc => ?_) (fun hc => ?_)
    · rw [if_neg hc] at h
      refine j_aload_n hX 0 dX7_placeRefusal_23 rfl rfl ?_
      refine j_getS (k := 0) hX hfl cbX7 ty19 (by decide) rfl wd225 rfl sb19_0 dX7_placeRefusal_24 ?_
      refine j_iload_n hX 1 dX7_placeRefusal_27 rfl rfl ?_
      obtain ⟨x2, hv, h⟩ := bs h
      refine j_iald hX hE ty20 pc20 hv dX7_placeRefusal_28 ?_
      refine j_iconst hX dX7_placeRefusal_29 (rc rfl) ?_
      refine j_icmp_ne hX (tgt := 36) dX7_placeRefusal_30 (by decide) (fun hc => ?_) (fun hc => ?_)
      · rw [if_neg hc] at h
        refine j_iload_n hX 2 dX7_placeRefusal_36 rfl rfl ?_
        refine j_if_lt hX (tgt := 54) dX7_placeRefusal_37 (by decide) (fun hc => ?_) (fun hc => ?_)
        · rw [if_pos hc] at h
          refine j_bipush hX dX7_placeRefusal_54 (rc rfl) (by decide) ?_
          cases h
          exact j_iret hX hR dX7_placeRefusal_56
        · rw [if_neg hc] at h
          refine j_iload_n hX 2 dX7_placeRefusal_40 rfl rfl ?_
          refine j_aload_n hX 0 dX7_placeRefusal_41 rfl rfl ?_
          refine j_getS (k := 1) hX hfl cbX7 ty19 (by decide) rfl wd226 rfl sb19_1 dX7_placeRefusal_42 ?_
          refine j_iload_n hX 1 dX7_placeRefusal_45 rfl rfl ?_
          obtain ⟨x3, hv, h⟩ := bs h
          refine j_iald hX hE ty21 pc21 hv dX7_placeRefusal_46 ?_
          refine j_icmp_ge hX (tgt := 54) dX7_placeRefusal_47 (by decide) (fun hc => ?_) (fun hc => ?_)
          · rw [if_pos hc] at h
            refine j_bipush hX dX7_placeRefusal_54 (rc rfl) (by decide) ?_
            cases h
            exact j_iret hX hR dX7_placeRefusal_56
          · rw [if_neg hc] at h
            refine j_iconst hX dX7_placeRefusal_50 (rc rfl) ?_
            refine j_goto hX (tgt := 56) dX7_placeRefusal_51 (by decide) ?_
            cases h
            exact j_iret hX hR dX7_placeRefusal_56
      · rw [if_pos hc] at h
        refine j_bipush hX dX7_placeRefusal_33 (rc rfl) (by decide) ?_
        cases h
        exact j_iret hX hR dX7_placeRefusal_35
    · rw [if_pos hc] at h
      refine j_bipush hX dX7_placeRefusal_20 (rc rfl) (by decide) ?_
      cases h
      exact j_iret hX hR dX7_placeRefusal_22
  · rw [if_pos hc] at h
    refine j_iconst hX dX7_placeRefusal_8 (rc rfl) ?_
    cases h
    exact j_iret hX hR dX7_placeRefusal_9
theorem s_X7_sizeOf {g : G0} {B : Nat → Nat} {n : Nat} {E : Mem → Mem} {a1 : Int} {S : Mem} {r : Int} (hfl : g.2.2.2.2 = true) (hE : Lens E PC) (h : g_X7_sizeOf a1 S = some r) : Cn g B n yX7_sizeOf cX7_sizeOf 2 (some .int) 2 [vR 19, vI (a1)] (E S) (QcI g B n r (E S)) := by
  refine Cn.of (by decide +kernel) (Nat.le_of_ble_eq_true rfl) (fun X hg hnl hX hR => ?_)
  subst hg
  have hX : Ctx X cX7_sizeOf "TelegramFeelings$Shelves" 2 := hX
  unfold g_X7_sizeOf at h
  show JW X B n 0 0 0 [(0, vR 19), (1, vI (a1))] [] (E S) (QM X (QcI (gX X) B n r (E S)))
  refine j_aload_n hX 0 dX7_sizeOf_0 rfl rfl ?_
  refine j_iload_n hX 1 dX7_sizeOf_1 rfl rfl ?_
  refine j_callVI hX mwX7_has miX7_has wd468 cbX7 ty19 hyX7_has (by omega) (by decide) ⟨Nat.zero_le _, Nat.zero_le _⟩ dX7_sizeOf_2 (s_X7_has hfl rfl) npX7_has rfl (Nat.le_of_ble_eq_true rfl) ?_
  refine j_if_eq hX (tgt := 17) dX7_sizeOf_5 (by decide) (fun hc => ?_) (fun hc => ?_)
  · rw [if_pos hc] at h
    refine j_iconst hX dX7_sizeOf_17 (rc rfl) ?_
    cases h
    exact j_iret hX hR dX7_sizeOf_18
  · rw [if_neg hc] at h
    refine j_aload_n hX 0 dX7_sizeOf_8 rfl rfl ?_
    refine j_getS (k := 1) hX hfl cbX7 ty19 (by decide) rfl wd226 rfl sb19_1 dX7_sizeOf_9 ?_
    refine j_iload_n hX 1 dX7_sizeOf_12 rfl rfl ?_
    obtain ⟨x1, hv, h⟩ := bs h
    refine j_iald hX hE ty21 pc21 hv dX7_sizeOf_13 ?_
    refine j_goto hX (tgt := 18) dX7_sizeOf_14 (by decide) ?_
    cases h
    exact j_iret hX hR dX7_sizeOf_18
theorem s_X7_bodyOn {g : G0} {B : Nat → Nat} {n : Nat} {E : Mem → Mem} {a1 : Int} {S : Mem} {r : Int} (hfl : g.2.2.2.2 = true) (hE : Lens E PC) (h : g_X7_bodyOn a1 S = some r) : Cn g B n yX7_bodyOn cX7_bodyOn 2 (some .int) 2 [vR 19, vI (a1)] (E S) (QcI g B n r (E S)) := by
  refine Cn.of (by decide +kernel) (Nat.le_of_ble_eq_true rfl) (fun X hg hnl hX hR => ?_)
  subst hg
  have hX : Ctx X cX7_bodyOn "TelegramFeelings$Shelves" 2 := hX
  unfold g_X7_bodyOn at h
  show JW X B n 0 0 0 [(0, vR 19), (1, vI (a1))] [] (E S) (QM X (QcI (gX X) B n r (E S)))
  refine j_aload_n hX 0 dX7_bodyOn_0 rfl rfl ?_
  refine j_iload_n hX 1 dX7_bodyOn_1 rfl rfl ?_
  refine j_callVI hX mwX7_has miX7_has wd468 cbX7 ty19 hyX7_has (by omega) (by decide) ⟨Nat.zero_le _, Nat.zero_le _⟩ dX7_bodyOn_2 (s_X7_has hfl rfl) npX7_has rfl (Nat.le_of_ble_eq_true rfl) ?_
  refine j_if_eq hX (tgt := 17) dX7_bodyOn_5 (by decide) (fun hc => ?_) (fun hc => ?_)
  · rw [if_pos hc] at h
    refine j_iconst hX dX7_bodyOn_17 (rc rfl) ?_
    cases h
    exact j_iret hX hR dX7_bodyOn_18
  · rw [if_neg hc] at h
    refine j_aload_n hX 0 dX7_bodyOn_8 rfl rfl ?_
    refine j_getS (k := 2) hX hfl cbX7 ty19 (by decide) rfl wd227 rfl sb19_2 dX7_bodyOn_9 ?_
    refine j_iload_n hX 1 dX7_bodyOn_12 rfl rfl ?_
    obtain ⟨x1, hv, h⟩ := bs h
    refine j_iald hX hE ty22 pc22 hv dX7_bodyOn_13 ?_
    refine j_goto hX (tgt := 18) dX7_bodyOn_14 (by decide) ?_
    cases h
    exact j_iret hX hR dX7_bodyOn_18
theorem s_X7_hold {g : G0} {B : Nat → Nat} {n : Nat} {E : Mem → Mem} {a1 : Int} {a2 : Int} {S : Mem} {S' : Mem} (hfl : g.2.2.2.2 = true) (hE : Lens E PC) (h : g_X7_hold a1 a2 S = some S') : Cn g B n yX7_hold cX7_hold 3 none 2 [vR 19, vI (a1), vI (a2)] (E S) (QcV g B n (E S')) := by
  refine Cn.of (by decide +kernel) (Nat.le_of_ble_eq_true rfl) (fun X hg hnl hX hR => ?_)
  subst hg
  have hX : Ctx X cX7_hold "TelegramFeelings$Shelves" 2 := hX
  unfold g_X7_hold at h
  show JW X B n 0 0 0 [(0, vR 19), (1, vI (a1)), (2, vI (a2))] [] (E S) (QM X (QcV (gX X) B n (E S')))
  refine j_aload_n hX 0 dX7_hold_0 rfl rfl ?_
  refine j_iload_n hX 1 dX7_hold_1 rfl rfl ?_
  refine j_callVI hX mwX7_has miX7_has wd468 cbX7 ty19 hyX7_has (by omega) (by decide) ⟨Nat.zero_le _, Nat.zero_le _⟩ dX7_hold_2 (s_X7_has hfl rfl) npX7_has rfl (Nat.le_of_ble_eq_true rfl) ?_
  refine j_if_eq hX (tgt := 37) dX7_hold_5 (by decide) (fun hc => ?_) (fun hc => ?_)
  · rw [if_pos hc] at h
    cases h
    exact j_vret hX hR dX7_hold_37
  · rw [if_neg hc] at h
    refine j_aload_n hX 0 dX7_hold_8 rfl rfl ?_
    refine j_getS (k := 0) hX hfl cbX7 ty19 (by decide) rfl wd225 rfl sb19_0 dX7_hold_9 ?_
    refine j_iload_n hX 1 dX7_hold_12 rfl rfl ?_
    refine j_iload_n hX 2 dX7_hold_13 rfl rfl ?_
    refine j_if_ge hX (tgt := 21) dX7_hold_14 (by decide) (fun hc => ?_) (fun hc => ?_)
    · rw [if_pos hc] at h
      refine j_iconst hX dX7_hold_21 (rc rfl) ?_
      obtain ⟨S1, hv, h⟩ := bs h
      refine j_iast hX hE ty20 pc20 hv dX7_hold_22 ?_
      refine j_aload_n hX 0 dX7_hold_23 rfl rfl ?_
      refine j_getS (k := 1) hX hfl cbX7 ty19 (by decide) rfl wd226 rfl sb19_1 dX7_hold_24 ?_
      refine j_iload_n hX 1 dX7_hold_27 rfl rfl ?_
      refine j_iconst hX dX7_hold_28 (rc rfl) ?_
      obtain ⟨S2, hv, h⟩ := bs h
      refine j_iast hX hE ty21 pc21 hv dX7_hold_29 ?_
      refine j_aload_n hX 0 dX7_hold_30 rfl rfl ?_
      refine j_getS (k := 2) hX hfl cbX7 ty19 (by decide) rfl wd227 rfl sb19_2 dX7_hold_31 ?_
      refine j_iload_n hX 1 dX7_hold_34 rfl rfl ?_
      refine j_iload_n hX 2 dX7_hold_35 rfl rfl ?_
      obtain ⟨S3, hv, h⟩ := bs h
      refine j_iast hX hE ty22 pc22 hv dX7_hold_36 ?_
      cases h
      exact j_vret hX hR dX7_hold_37
    · rw [if_neg hc] at h
      refine j_iconst hX dX7_hold_17 (rc rfl) ?_
      refine j_goto hX (tgt := 22) dX7_hold_18 (by decide) ?_
      obtain ⟨S4, hv, h⟩ := bs h
      refine j_iast hX hE ty20 pc20 hv dX7_hold_22 ?_
      refine j_aload_n hX 0 dX7_hold_23 rfl rfl ?_
      refine j_getS (k := 1) hX hfl cbX7 ty19 (by decide) rfl wd226 rfl sb19_1 dX7_hold_24 ?_
      refine j_iload_n hX 1 dX7_hold_27 rfl rfl ?_
      refine j_iconst hX dX7_hold_28 (rc rfl) ?_
      obtain ⟨S5, hv, h⟩ := bs h
      refine j_iast hX hE ty21 pc21 hv dX7_hold_29 ?_
      refine j_aload_n hX 0 dX7_hold_30 rfl rfl ?_
      refine j_getS (k := 2) hX hfl cbX7 ty19 (by decide) rfl wd227 rfl sb19_2 dX7_hold_31 ?_
      refine j_iload_n hX 1 dX7_hold_34 rfl rfl ?_
      refine j_iload_n hX 2 dX7_hold_35 rfl rfl ?_
      obtain ⟨S6, hv, h⟩ := bs h
      refine j_iast hX hE ty22 pc22 hv dX7_hold_36 ?_
      cases h
      exact j_vret hX hR dX7_hold_37
theorem s_X7_lay {g : G0} {B : Nat → Nat} {n : Nat} {E : Mem → Mem} {a1 : Int} {a2 : Int} {a3 : Int} {S : Mem} {S' : Mem} (hfl : g.2.2.2.2 = true) (hE : Lens E PC) (h : g_X7_lay a1 a2 a3 S = some S') : Cn g B n yX7_lay cX7_lay 4 none 2 [vR 19, vI (a1), vI (a2), vI (a3)] (E S) (QcV g B n (E S')) := by
  refine Cn.of (by decide +kernel) (Nat.le_of_ble_eq_true rfl) (fun X hg hnl hX hR => ?_)
  subst hg
  have hX : Ctx X cX7_lay "TelegramFeelings$Shelves" 2 := hX
  unfold g_X7_lay at h
  show JW X B n 0 0 0 [(0, vR 19), (1, vI (a1)), (2, vI (a2)), (3, vI (a3))] [] (E S) (QM X (QcV (gX X) B n (E S')))
  refine j_aload_n hX 0 dX7_lay_0 rfl rfl ?_
  refine j_iload_n hX 1 dX7_lay_1 rfl rfl ?_
  refine j_callVI hX mwX7_has miX7_has wd468 cbX7 ty19 hyX7_has (by omega) (by decide) ⟨Nat.zero_le _, Nat.zero_le _⟩ dX7_lay_2 (s_X7_has hfl rfl) npX7_has rfl (Nat.le_of_ble_eq_true rfl) ?_
  refine j_if_eq hX (tgt := 42) dX7_lay_5 (by decide) (fun hc => ?_) (fun hc => ?_)
  · rw [if_pos hc] at h
    cases h
    exact j_vret hX hR dX7_lay_42
  · rw [if_neg hc] at h
    refine j_iload_n hX 3 dX7_lay_8 rfl rfl ?_
    refine j_if_lt hX (tgt := 42) dX7_lay_9 (by decide) (fun hc => ?_) (fun hc => ?_)
    · rw [if_pos hc] at h
      cases h
      exact j_vret hX hR dX7_lay_42
    · rw [if_neg hc] at h
      refine j_iload_n hX 3 dX7_lay_12 rfl rfl ?_
      refine j_bipush hX dX7_lay_13 (rc rfl) (by decide) ?_
      refine j_icmp_gt hX (tgt := 42) dX7_lay_15 (by decide) (fun hc => ?_) (fun hc => ?_)
      · rw [if_pos hc] at h
        cases h
        exact j_vret hX hR dX7_lay_42
      · rw [if_neg hc] at h
        refine j_aload_n hX 0 dX7_lay_18 rfl rfl ?_
        refine j_getS (k := 0) hX hfl cbX7 ty19 (by decide) rfl wd225 rfl sb19_0 dX7_lay_19 ?_
        refine j_iload_n hX 1 dX7_lay_22 rfl rfl ?_
        refine j_iload_n hX 2 dX7_lay_23 rfl rfl ?_
        obtain ⟨S1, hv, h⟩ := bs h
        refine j_iast hX hE ty20 pc20 hv dX7_lay_24 ?_
        refine j_aload_n hX 0 dX7_lay_25 rfl rfl ?_
        refine j_getS (k := 1) hX hfl cbX7 ty19 (by decide) rfl wd226 rfl sb19_1 dX7_lay_26 ?_
        refine j_iload_n hX 1 dX7_lay_29 rfl rfl ?_
        refine j_iload_n hX 3 dX7_lay_30 rfl rfl ?_
        obtain ⟨S2, hv, h⟩ := bs h
        refine j_iast hX hE ty21 pc21 hv dX7_lay_31 ?_
        refine j_aload_n hX 0 dX7_lay_32 rfl rfl ?_
        refine j_getS (k := 3) hX hfl cbX7 ty19 (by decide) rfl wd228 rfl sb19_3 dX7_lay_33 ?_
        refine j_iload_n hX 1 dX7_lay_36 rfl rfl ?_
        obtain ⟨q3, hv, h⟩ := bs h
        refine j_aald hX hE ty23 (Or.inr rfl) pc23 hv dX7_lay_37 ?_
        refine j_lconst (z := 0) hX dX7_lay_38 rfl (rcl rfl) ?_
        obtain ⟨S4, h1, h⟩ := bs h
        refine j_callSV hX mwJ7_fill_d0a16 msJ7_fill_d0a16 wd1090 hyJ7_fill_d0a16 (by omega) (by decide) ⟨Nat.zero_le _, Nat.zero_le _⟩ dX7_lay_39 (s_J7_fill_d0a16 hE h1) npJ7_fill_d0a16 rfl (Nat.le_of_ble_eq_true rfl) ?_
        cases h
        exact j_vret hX hR dX7_lay_42
theorem s_X7_at {g : G0} {B : Nat → Nat} {n : Nat} {E : Mem → Mem} {a1 : Int} {a2 : Int} {S : Mem} {r : Int} (hfl : g.2.2.2.2 = true) (hE : Lens E PC) (h : g_X7_at a1 a2 S = some r) : Cn g B n yX7_at cX7_at 3 (some .long) 2 [vR 19, vI (a1), vI (a2)] (E S) (QcL g B n r (E S)) := by
  refine Cn.of (by decide +kernel) (Nat.le_of_ble_eq_true rfl) (fun X hg hnl hX hR => ?_)
  subst hg
  have hX : Ctx X cX7_at "TelegramFeelings$Shelves" 2 := hX
  unfold g_X7_at at h
  show JW X B n 0 0 0 [(0, vR 19), (1, vI (a1)), (2, vI (a2))] [] (E S) (QM X (QcL (gX X) B n r (E S)))
  refine j_aload_n hX 0 dX7_at_0 rfl rfl ?_
  refine j_iload_n hX 1 dX7_at_1 rfl rfl ?_
  refine j_callVI hX mwX7_has miX7_has wd468 cbX7 ty19 hyX7_has (by omega) (by decide) ⟨Nat.zero_le _, Nat.zero_le _⟩ dX7_at_2 (s_X7_has hfl rfl) npX7_has rfl (Nat.le_of_ble_eq_true rfl) ?_
  refine j_if_eq hX (tgt := 39) dX7_at_5 (by decide) (fun hc => ?_) (fun hc => ?_)
  · rw [if_pos hc] at h
    refine j_lconst (z := 0) hX dX7_at_39 rfl (rcl rfl) ?_
    cases h
    exact j_lret hX hR dX7_at_40
  · rw [if_neg hc] at h
    refine j_iload_n hX 2 dX7_at_8 rfl rfl ?_
    refine j_if_lt hX (tgt := 39) dX7_at_9 (by decide) (fun hc => ?_) (fun hc => ?_)
    · rw [if_pos hc] at h
      refine j_lconst (z := 0) hX dX7_at_39 rfl (rcl rfl) ?_
      cases h
      exact j_lret hX hR dX7_at_40
    · rw [if_neg hc] at h
      refine j_iload_n hX 2 dX7_at_12 rfl rfl ?_
      refine j_aload_n hX 0 dX7_at_13 rfl rfl ?_
      refine j_getS (k := 1) hX hfl cbX7 ty19 (by decide) rfl wd226 rfl sb19_1 dX7_at_14 ?_
      refine j_iload_n hX 1 dX7_at_17 rfl rfl ?_
      obtain ⟨x1, hv, h⟩ := bs h
      refine j_iald hX hE ty21 pc21 hv dX7_at_18 ?_
      refine j_icmp_ge hX (tgt := 39) dX7_at_19 (by decide) (fun hc => ?_) (fun hc => ?_)
      · rw [if_pos hc] at h
        refine j_lconst (z := 0) hX dX7_at_39 rfl (rcl rfl) ?_
        cases h
        exact j_lret hX hR dX7_at_40
      · rw [if_neg hc] at h
        refine j_iload_n hX 2 dX7_at_22 rfl rfl ?_
        refine j_bipush hX dX7_at_23 (rc rfl) (by decide) ?_
        refine j_icmp_ge hX (tgt := 39) dX7_at_25 (by decide) (fun hc => ?_) (fun hc => ?_)
        · rw [if_pos hc] at h
          refine j_lconst (z := 0) hX dX7_at_39 rfl (rcl rfl) ?_
          cases h
          exact j_lret hX hR dX7_at_40
        · rw [if_neg hc] at h
          refine j_aload_n hX 0 dX7_at_28 rfl rfl ?_
          refine j_getS (k := 3) hX hfl cbX7 ty19 (by decide) rfl wd228 rfl sb19_3 dX7_at_29 ?_
          refine j_iload_n hX 1 dX7_at_32 rfl rfl ?_
          obtain ⟨q2, hv, h⟩ := bs h
          refine j_aald hX hE ty23 (Or.inr rfl) pc23 hv dX7_at_33 ?_
          refine j_iload_n hX 2 dX7_at_34 rfl rfl ?_
          obtain ⟨x3, hv, h⟩ := bs h
          refine j_laldD hX hE (fun _ h => h) hv dX7_at_35 ?_
          refine j_goto hX (tgt := 40) dX7_at_36 (by decide) ?_
          cases h
          exact j_lret hX hR dX7_at_40
theorem s_X7_cut {g : G0} {B : Nat → Nat} {n : Nat} {M : Mem} {a1 : Int} {a2 : Int} {r : Int} (hfl : g.2.2.2.2 = true) (h : g_X7_cut a1 a2 = r) : Cn g B n yX7_cut cX7_cut 3 (some .long) 1 [vI (a1), vL (a2)] M (QcL g B n r M) := by
  refine Cn.of (by decide +kernel) (Nat.le_of_ble_eq_true rfl) (fun X hg hnl hX hR => ?_)
  subst hg
  have hX : Ctx X cX7_cut "TelegramFeelings$Shelves" 1 := hX
  unfold g_X7_cut at h
  show JW X B n 0 0 0 [(0, vI (a1)), (1, vL (a2))] [] (M) (QM X (QcL (gX X) B n r M))
  refine j_iload_n hX 0 dX7_cut_0 rfl rfl ?_
  by_cases hc0 : a1 = 0
  · rw [if_pos hc0] at h
    refine j_tin hX (tgt := 36) dX7_cut_1 hc0 (by decide) (by decide) rfl (by decide) ?_
    refine j_lload_n hX 1 dX7_cut_36 rfl rfl ?_
    refine j_l2i hX dX7_cut_37 ?_
    refine j_i2b hX dX7_cut_38 ?_
    refine j_i2l hX dX7_cut_39 ?_
    subst h
    exact j_lret hX hR dX7_cut_40
  · rw [if_neg hc0] at h
    by_cases hc1 : a1 = 1
    · rw [if_pos hc1] at h
      refine j_tin hX (tgt := 41) dX7_cut_1 hc1 (by decide) (by decide) rfl (by decide) ?_
      refine j_lload_n hX 1 dX7_cut_41 rfl rfl ?_
      refine j_l2i hX dX7_cut_42 ?_
      refine j_i2s hX dX7_cut_43 ?_
      refine j_i2l hX dX7_cut_44 ?_
      subst h
      exact j_lret hX hR dX7_cut_45
    · rw [if_neg hc1] at h
      by_cases hc2 : a1 = 2
      · rw [if_pos hc2] at h
        refine j_tin hX (tgt := 60) dX7_cut_1 hc2 (by decide) (by decide) rfl (by decide) ?_
        refine j_lload_n hX 1 dX7_cut_60 rfl rfl ?_
        refine j_l2i hX dX7_cut_61 ?_
        refine j_i2l hX dX7_cut_62 ?_
        subst h
        exact j_lret hX hR dX7_cut_63
      · rw [if_neg hc2] at h
        by_cases hc3 : a1 = 3
        · rw [if_pos hc3] at h
          refine j_tin hX (tgt := 46) dX7_cut_1 hc3 (by decide) (by decide) rfl (by decide) ?_
          refine j_lload_n hX 1 dX7_cut_46 rfl rfl ?_
          subst h
          exact j_lret hX hR dX7_cut_47
        · rw [if_neg hc3] at h
          by_cases hc4 : a1 = 4
          · rw [if_pos hc4] at h
            refine j_tin hX (tgt := 48) dX7_cut_1 hc4 (by decide) (by decide) rfl (by decide) ?_
            refine j_lload_n hX 1 dX7_cut_48 rfl rfl ?_
            refine j_lconst (z := 0) hX dX7_cut_49 rfl (rcl rfl) ?_
            refine j_lcmp hX dX7_cut_50 ?_
            refine j_if_eq hX (tgt := 58) dX7_cut_51 (by decide) (fun hc => ?_) (fun hc => ?_)
            · rw [if_pos hc] at h
              refine j_lconst (z := 0) hX dX7_cut_58 rfl (rcl rfl) ?_
              subst h
              exact j_lret hX hR dX7_cut_59
            · rw [if_neg hc] at h
              refine j_lconst (z := 1) hX dX7_cut_54 rfl (rcl rfl) ?_
              refine j_goto hX (tgt := 59) dX7_cut_55 (by decide) ?_
              subst h
              exact j_lret hX hR dX7_cut_59
          · rw [if_neg hc4] at h
            refine j_tout hX (tgt := 60) dX7_cut_1 (by omega) (by decide) ?_
            refine j_lload_n hX 1 dX7_cut_60 rfl rfl ?_
            refine j_l2i hX dX7_cut_61 ?_
            refine j_i2l hX dX7_cut_62 ?_
            subst h
            exact j_lret hX hR dX7_cut_63
theorem s_X7_store {g : G0} {B : Nat → Nat} {n : Nat} {E : Mem → Mem} {a1 : Int} {a2 : Int} {a3 : Int} {S : Mem} {S' : Mem} (hfl : g.2.2.2.2 = true) (hE : Lens E PC) (h : g_X7_store a1 a2 a3 S = some S') : Cn g B n yX7_store cX7_store 5 none 2 [vR 19, vI (a1), vI (a2), vL (a3)] (E S) (QcV g B n (E S')) := by
  refine Cn.of (by decide +kernel) (Nat.le_of_ble_eq_true rfl) (fun X hg hnl hX hR => ?_)
  subst hg
  have hX : Ctx X cX7_store "TelegramFeelings$Shelves" 2 := hX
  unfold g_X7_store at h
  show JW X B n 0 0 0 [(0, vR 19), (1, vI (a1)), (2, vI (a2)), (3, vL (a3))] [] (E S) (QM X (QcV (gX X) B n (E S')))
  refine j_aload_n hX 0 dX7_store_0 rfl rfl ?_
  refine j_iload_n hX 1 dX7_store_1 rfl rfl ?_
  refine j_callVI hX mwX7_has miX7_has wd468 cbX7 ty19 hyX7_has (by omega) (by decide) ⟨Nat.zero_le _, Nat.zero_le _⟩ dX7_store_2 (s_X7_has hfl rfl) npX7_has rfl (Nat.le_of_ble_eq_true rfl) ?_
  refine j_if_eq hX (tgt := 46) dX7_store_5 (by decide) (fun hc => ?_) (fun hc => ?_)
  · rw [if_pos hc] at h
    cases h
    exact j_vret hX hR dX7_store_46
  · rw [if_neg hc] at h
    refine j_iload_n hX 2 dX7_store_8 rfl rfl ?_
    refine j_if_lt hX (tgt := 46) dX7_store_9 (by decide) (fun hc => ?_) (fun hc => ?_)
    · rw [if_pos hc] at h
      cases h
      exact j_vret hX hR dX7_store_46
    · rw [if_neg hc] at h
      refine j_iload_n hX 2 dX7_store_12 rfl rfl ?_
      refine j_aload_n hX 0 dX7_store_13 rfl rfl ?_
      refine j_getS (k := 1) hX hfl cbX7 ty19 (by decide) rfl wd226 rfl sb19_1 dX7_store_14 ?_
      refine j_iload_n hX 1 dX7_store_17 rfl rfl ?_
      obtain ⟨x1, hv, h⟩ := bs h
      refine j_iald hX hE ty21 pc21 hv dX7_store_18 ?_
      refine j_icmp_ge hX (tgt := 46) dX7_store_19 (by decide) (fun hc => ?_) (fun hc => ?_)
      · rw [if_pos hc] at h
        cases h
        exact j_vret hX hR dX7_store_46
      · rw [if_neg hc] at h
        refine j_iload_n hX 2 dX7_store_22 rfl rfl ?_
        refine j_bipush hX dX7_store_23 (rc rfl) (by decide) ?_
        refine j_icmp_ge hX (tgt := 46) dX7_store_25 (by decide) (fun hc => ?_) (fun hc => ?_)
        · rw [if_pos hc] at h
          cases h
          exact j_vret hX hR dX7_store_46
        · rw [if_neg hc] at h
          refine j_aload_n hX 0 dX7_store_28 rfl rfl ?_
          refine j_getS (k := 3) hX hfl cbX7 ty19 (by decide) rfl wd228 rfl sb19_3 dX7_store_29 ?_
          refine j_iload_n hX 1 dX7_store_32 rfl rfl ?_
          obtain ⟨q2, hv, h⟩ := bs h
          refine j_aald hX hE ty23 (Or.inr rfl) pc23 hv dX7_store_33 ?_
          refine j_iload_n hX 2 dX7_store_34 rfl rfl ?_
          refine j_aload_n hX 0 dX7_store_35 rfl rfl ?_
          refine j_getS (k := 0) hX hfl cbX7 ty19 (by decide) rfl wd225 rfl sb19_0 dX7_store_36 ?_
          refine j_iload_n hX 1 dX7_store_39 rfl rfl ?_
          obtain ⟨x3, hv, h⟩ := bs h
          refine j_iald hX hE ty20 pc20 hv dX7_store_40 ?_
          refine j_lload_n hX 3 dX7_store_41 rfl rfl ?_
          refine j_callSL hX mwX7_cut msX7_cut wd1103 hyX7_cut (by omega) (by decide) ⟨Nat.zero_le _, Nat.zero_le _⟩ dX7_store_42 (s_X7_cut hfl rfl) npX7_cut rfl (Nat.le_of_ble_eq_true rfl) ?_
          obtain ⟨S4, hv, h⟩ := bs h
          refine j_lastD hX hE (fun _ h => h) hv dX7_store_45 ?_
          cases h
          exact j_vret hX hR dX7_store_46
theorem s_X7_move {g : G0} {B : Nat → Nat} {n : Nat} {E : Mem → Mem} {a1 : Int} {a2 : Int} {a3 : Int} {a4 : Int} {a5 : Int} {S : Mem} {r : Int} {S' : Mem} (hfl : g.2.2.2.2 = true) (hE : Lens E PC) (h : g_X7_move a1 a2 a3 a4 a5 S = some (r, S')) : Cn g B n yX7_move cX7_move 6 (some .int) 2 [vR 19, vI (a1), vI (a2), vI (a3), vI (a4), vI (a5)] (E S) (QcI g B n r (E S')) := by
  refine Cn.of (by decide +kernel) (Nat.le_of_ble_eq_true rfl) (fun X hg hnl hX hR => ?_)
  subst hg
  have hX : Ctx X cX7_move "TelegramFeelings$Shelves" 2 := hX
  unfold g_X7_move at h
  show JW X B n 0 0 0 [(0, vR 19), (1, vI (a1)), (2, vI (a2)), (3, vI (a3)), (4, vI (a4)), (5, vI (a5))] [] (E S) (QM X (QcI (gX X) B n r (E S')))
  refine j_aload_n hX 0 dX7_move_0 rfl rfl ?_
  refine j_iload_n hX 1 dX7_move_1 rfl rfl ?_
  refine j_callVI hX mwX7_has miX7_has wd468 cbX7 ty19 hyX7_has (by omega) (by decide) ⟨Nat.zero_le _, Nat.zero_le _⟩ dX7_move_2 (s_X7_has hfl rfl) npX7_has rfl (Nat.le_of_ble_eq_true rfl) ?_
  refine j_if_eq hX (tgt := 16) dX7_move_5 (by decide) (fun hc => ?_) (fun hc => ?_)
  · rw [if_pos hc] at h
    refine j_iconst hX dX7_move_16 (rc rfl) ?_
    cases h
    exact j_iret hX hR dX7_move_17
  · rw [if_neg hc] at h
    refine j_aload_n hX 0 dX7_move_8 rfl rfl ?_
    refine j_iload_n hX 3 dX7_move_9 rfl rfl ?_
    refine j_callVI hX mwX7_has miX7_has wd468 cbX7 ty19 hyX7_has (by omega) (by decide) ⟨Nat.zero_le _, Nat.zero_le _⟩ dX7_move_10 (s_X7_has hfl rfl) npX7_has rfl (Nat.le_of_ble_eq_true rfl) ?_
    refine j_if_ne hX (tgt := 18) dX7_move_13 (by decide) (fun hc => ?_) (fun hc => ?_)
    · rw [if_neg hc] at h
      refine j_aload_n hX 0 dX7_move_18 rfl rfl ?_
      refine j_getS (k := 0) hX hfl cbX7 ty19 (by decide) rfl wd225 rfl sb19_0 dX7_move_19 ?_
      refine j_iload_n hX 1 dX7_move_22 rfl rfl ?_
      obtain ⟨x1, hv, h⟩ := bs h
      refine j_iald hX hE ty20 pc20 hv dX7_move_23 ?_
      refine j_iconst hX dX7_move_24 (rc rfl) ?_
      refine j_icmp_eq hX (tgt := 38) dX7_move_25 (by decide) (fun hc => ?_) (fun hc => ?_)
      · rw [if_pos hc] at h
        refine j_bipush hX dX7_move_38 (rc rfl) (by decide) ?_
        cases h
        exact j_iret hX hR dX7_move_40
      · rw [if_neg hc] at h
        refine j_aload_n hX 0 dX7_move_28 rfl rfl ?_
        refine j_getS (k := 0) hX hfl cbX7 ty19 (by decide) rfl wd225 rfl sb19_0 dX7_move_29 ?_
        refine j_iload_n hX 3 dX7_move_32 rfl rfl ?_
        obtain ⟨x2, hv, h⟩ := bs h
        refine j_iald hX hE ty20 pc20 hv dX7_move_33 ?_
        refine j_iconst hX dX7_move_34 (rc rfl) ?_
        refine j_icmp_ne hX (tgt := 41) dX7_move_35 (by decide) (fun hc => ?_) (fun hc => ?_)
        · rw [if_neg hc] at h
          refine j_aload_n hX 0 dX7_move_41 rfl rfl ?_
          refine j_getS (k := 0) hX hfl cbX7 ty19 (by decide) rfl wd225 rfl sb19_0 dX7_move_42 ?_
          refine j_iload_n hX 1 dX7_move_45 rfl rfl ?_
          obtain ⟨x3, hv, h⟩ := bs h
          refine j_iald hX hE ty20 pc20 hv dX7_move_46 ?_
          refine j_iconst hX dX7_move_47 (rc rfl) ?_
          refine j_icmp_eq hX (tgt := 66) dX7_move_48 (by decide) (fun hc => ?_) (fun hc => ?_)
          · rw [if_pos hc] at h
            refine j_bipush hX dX7_move_66 (rc rfl) (by decide) ?_
            cases h
            exact j_iret hX hR dX7_move_68
          · rw [if_neg hc] at h
            refine j_aload_n hX 0 dX7_move_51 rfl rfl ?_
            refine j_getS (k := 0) hX hfl cbX7 ty19 (by decide) rfl wd225 rfl sb19_0 dX7_move_52 ?_
            refine j_iload_n hX 1 dX7_move_55 rfl rfl ?_
            obtain ⟨x4, hv, h⟩ := bs h
            refine j_iald hX hE ty20 pc20 hv dX7_move_56 ?_
            refine j_aload_n hX 0 dX7_move_57 rfl rfl ?_
            refine j_getS (k := 0) hX hfl cbX7 ty19 (by decide) rfl wd225 rfl sb19_0 dX7_move_58 ?_
            refine j_iload_n hX 3 dX7_move_61 rfl rfl ?_
            obtain ⟨x5, hv, h⟩ := bs h
            refine j_iald hX hE ty20 pc20 hv dX7_move_62 ?_
            refine j_icmp_eq hX (tgt := 69) dX7_move_63 (by decide) (fun hc => ?_) (fun hc => ?_)
            · rw [if_pos hc] at h
              refine j_iload hX 5 dX7_move_69 rfl ?_
              refine j_if_lt hX (tgt := 110) dX7_move_71 (by decide) (fun hc => ?_) (fun hc => ?_)
              · rw [if_pos hc] at h
                refine j_bipush hX dX7_move_110 (rc rfl) (by decide) ?_
                cases h
                exact j_iret hX hR dX7_move_112
              · rw [if_neg hc] at h
                refine j_iload_n hX 2 dX7_move_74 rfl rfl ?_
                refine j_if_lt hX (tgt := 110) dX7_move_75 (by decide) (fun hc => ?_) (fun hc => ?_)
                · rw [if_pos hc] at h
                  refine j_bipush hX dX7_move_110 (rc rfl) (by decide) ?_
                  cases h
                  exact j_iret hX hR dX7_move_112
                · rw [if_neg hc] at h
                  refine j_iload hX 4 dX7_move_78 rfl ?_
                  refine j_if_lt hX (tgt := 110) dX7_move_80 (by decide) (fun hc => ?_) (fun hc => ?_)
                  · rw [if_pos hc] at h
                    refine j_bipush hX dX7_move_110 (rc rfl) (by decide) ?_
                    cases h
                    exact j_iret hX hR dX7_move_112
                  · rw [if_neg hc] at h
                    refine j_iload_n hX 2 dX7_move_83 rfl rfl ?_
                    refine j_aload_n hX 0 dX7_move_84 rfl rfl ?_
                    refine j_getS (k := 1) hX hfl cbX7 ty19 (by decide) rfl wd226 rfl sb19_1 dX7_move_85 ?_
                    refine j_iload_n hX 1 dX7_move_88 rfl rfl ?_
                    obtain ⟨x6, hv, h⟩ := bs h
                    refine j_iald hX hE ty21 pc21 hv dX7_move_89 ?_
                    refine j_iload hX 5 dX7_move_90 rfl ?_
                    refine j_isub hX dX7_move_92 ?_
                    refine j_icmp_gt hX (tgt := 110) dX7_move_93 (by decide) (fun hc => ?_) (fun hc => ?_)
                    · rw [if_pos hc] at h
                      refine j_bipush hX dX7_move_110 (rc rfl) (by decide) ?_
                      cases h
                      exact j_iret hX hR dX7_move_112
                    · rw [if_neg hc] at h
                      refine j_iload hX 4 dX7_move_96 rfl ?_
                      refine j_aload_n hX 0 dX7_move_98 rfl rfl ?_
                      refine j_getS (k := 1) hX hfl cbX7 ty19 (by decide) rfl wd226 rfl sb19_1 dX7_move_99 ?_
                      refine j_iload_n hX 3 dX7_move_102 rfl rfl ?_
                      obtain ⟨x7, hv, h⟩ := bs h
                      refine j_iald hX hE ty21 pc21 hv dX7_move_103 ?_
                      refine j_iload hX 5 dX7_move_104 rfl ?_
                      refine j_isub hX dX7_move_106 ?_
                      refine j_icmp_le hX (tgt := 113) dX7_move_107 (by decide) (fun hc => ?_) (fun hc => ?_)
                      · rw [if_pos hc] at h
                        refine j_aload_n hX 0 dX7_move_113 rfl rfl ?_
                        refine j_getS (k := 3) hX hfl cbX7 ty19 (by decide) rfl wd228 rfl sb19_3 dX7_move_114 ?_
                        refine j_iload_n hX 1 dX7_move_117 rfl rfl ?_
                        obtain ⟨q8, hv, h⟩ := bs h
                        refine j_aald hX hE ty23 (Or.inr rfl) pc23 hv dX7_move_118 ?_
                        refine j_iload_n hX 2 dX7_move_119 rfl rfl ?_
                        refine j_aload_n hX 0 dX7_move_120 rfl rfl ?_
                        refine j_getS (k := 3) hX hfl cbX7 ty19 (by decide) rfl wd228 rfl sb19_3 dX7_move_121 ?_
                        refine j_iload_n hX 3 dX7_move_124 rfl rfl ?_
                        obtain ⟨q9, hv, h⟩ := bs h
                        refine j_aald hX hE ty23 (Or.inr rfl) pc23 hv dX7_move_125 ?_
                        refine j_iload hX 4 dX7_move_126 rfl ?_
                        refine j_iload hX 5 dX7_move_128 rfl ?_
                        obtain ⟨S10, hv, h⟩ := bs h
                        refine j_copyL hX hE (fun _ h => h) (by omega) hv wd1118 dX7_move_130 rfl ?_
                        refine j_iload hX 5 dX7_move_133 rfl ?_
                        cases h
                        exact j_iret hX hR dX7_move_135
                      · rw [if_neg hc] at h
                        refine j_bipush hX dX7_move_110 (rc rfl) (by decide) ?_
                        cases h
                        exact j_iret hX hR dX7_move_112
            · rw [if_neg hc] at h
              refine j_bipush hX dX7_move_66 (rc rfl) (by decide) ?_
              cases h
              exact j_iret hX hR dX7_move_68
        · rw [if_pos hc] at h
          refine j_bipush hX dX7_move_38 (rc rfl) (by decide) ?_
          cases h
          exact j_iret hX hR dX7_move_40
    · rw [if_pos hc] at h
      refine j_iconst hX dX7_move_16 (rc rfl) ?_
      cases h
      exact j_iret hX hR dX7_move_17
theorem sl_X8_read_19 {X : K0} {B : Nat → Nat} {n : Nat} {E : Mem → Mem} {S' : Mem} (hX : Ctx X cX8_read "TelegramFeelings$Telegram" 3) (hR : CR X none) (hfl : (gX X).2.2.2.2 = true) (hnl : X.2.2.2.2.2.2.2.2.2.2.2.2.2.2 = 6) (hE : Lens E PC)  {v2 : Int} {v3 : Int}  : ∀ (fu : Nat) (v4 : Int) (S : Mem), g_X8_read_L19 v2 v3 fu v4 S = some S' → JW X B n 0 0 19 [(0, vR 30), (1, vR 19), (2, vI (v2)), (3, vI (v3)), (4, vI (v4))] [] (E S) (QM X (QcV (gX X) B n (E S'))) := by
  intro fu
  induction fu with
  | zero =>
    intro v4 S h
    rw [g_X8_read_L19] at h
    cases h
  | succ fu ih =>
    intro v4 S h
    rw [g_X8_read_L19] at h
    refine j_iload hX 4 dX8_read_19 rfl ?_
    refine j_iload_n hX 3 dX8_read_21 rfl rfl ?_
    refine j_icmp_ge hX (tgt := 72) dX8_read_22 (by decide) (fun hc => ?_) (fun hc => ?_)
    · rw [if_pos hc] at h
      cases h
      exact j_vret hX hR dX8_read_72
    · rw [if_neg hc] at h
      refine j_aload_n hX 1 dX8_read_25 rfl rfl ?_
      refine j_iload_n hX 2 dX8_read_26 rfl rfl ?_
      refine j_iload hX 4 dX8_read_27 rfl ?_
      obtain ⟨x3, h1, h⟩ := bs h
      refine j_callVL hX mwX7_at miX7_at wd701 cbX7 ty19 hyX7_at (by omega) (by decide) ⟨Nat.zero_le _, Nat.zero_le _⟩ dX8_read_29 (s_X7_at hfl hE h1) npX7_at rfl (Nat.le_of_ble_eq_true rfl) ?_
      refine j_l2i hX dX8_read_32 ?_
      refine j_istore (L' := [(5, vI (w32 x3)), (0, vR 30), (1, vR 19), (2, vI (v2)), (3, vI (v3)), (4, vI (v4))]) hX dX8_read_33 hnl (by decide) rfl ?_
      refine j_aload_n hX 1 dX8_read_35 rfl rfl ?_
      refine j_getS (k := 0) hX hfl cbX8 ty30 (by decide) rfl wd245 rfl sb30_0 dX8_read_36 ?_
      refine j_iload hX 0 dX8_read_39 rfl ?_
      refine j_iconst hX dX8_read_41 (rc rfl) ?_
      refine j_callVI hX mwX5_has miX5_has wd702 cbX5 ty1 hyX5_has (by omega) (by decide) ⟨Nat.zero_le _, Nat.zero_le _⟩ dX8_read_42 (s_X5_has hfl hE rfl) npX5_has rfl (Nat.le_of_ble_eq_true rfl) ?_
      refine j_if_ne hX (tgt := 49) dX8_read_45 (by decide) (fun hc => ?_) (fun hc => ?_)
      · rw [if_neg hc] at h
        refine j_aload_n hX 1 dX8_read_49 rfl rfl ?_
        refine j_getS (k := 2) hX hfl cbX8 ty30 (by decide) rfl wd247 rfl sb30_2 dX8_read_50 ?_
        refine j_iload hX 5 dX8_read_53 rfl ?_
        refine j_iload hX 0 dX8_read_55 rfl ?_
        obtain ⟨S4, hv, h⟩ := bs h
        refine j_iast hX hE ty31 pc31 hv dX8_read_57 ?_
        refine j_aload_n hX 1 dX8_read_58 rfl rfl ?_
        refine j_iload hX 5 dX8_read_59 rfl ?_
        refine j_iconst hX dX8_read_61 (rc rfl) ?_
        refine j_iadd hX dX8_read_62 ?_
        refine j_putI (k := 5) hX hE cbX8 ty30 pc30 (by decide) rfl wd250 rfl (Or.inl rfl) rfl dX8_read_63 ?_
        obtain ⟨S5, hx, h⟩ := ap_s h
        rw [← hx]
        clear hx
        refine j_iinc (L' := [(4, vI (w32 (v4 + 1))), (5, vI (w32 x3)), (0, vR 30), (1, vR 19), (2, vI (v2)), (3, vI (v3))]) hX 5 dX8_read_66 hnl (by decide) rfl rfl ?_
        refine j_goto hX (tgt := 19) dX8_read_69 (by decide) ?_
        refine j_sub [2, 3, 4, 5, 0] rfl ?_
        exact ih _ _ h
      · rw [if_pos hc] at h
        cases h
        exact j_vret hX hR dX8_read_48
theorem s_X8_read {g : G0} {B : Nat → Nat} {n : Nat} {E : Mem → Mem} {a2 : Int} {S : Mem} {S' : Mem} (hfl : g.2.2.2.2 = true) (hE : Lens E PC) (h : g_X8_read a2 S = some S') : Cn g B n yX8_read cX8_read 6 none 3 [vR 30, vR 19, vI (a2)] (E S) (QcV g B n (E S')) := by
  refine Cn.of (by decide +kernel) (Nat.le_of_ble_eq_true rfl) (fun X hg hnl hX hR => ?_)
  subst hg
  have hX : Ctx X cX8_read "TelegramFeelings$Telegram" 3 := hX
  unfold g_X8_read at h
  show JW X B n 0 0 0 [(0, vR 30), (1, vR 19), (2, vI (a2))] [] (E S) (QM X (QcV (gX X) B n (E S')))
  refine j_aload_n hX 0 dX8_read_0 rfl rfl ?_
  refine j_iconst hX dX8_read_1 (rc rfl) ?_
  refine j_putI (k := 5) hX hE cbX8 ty30 pc30 (by decide) rfl wd250 rfl (Or.inl rfl) rfl dX8_read_2 ?_
  obtain ⟨S1, hx, h⟩ := ap_s h
  rw [← hx]
  clear hx
  refine j_bipush hX dX8_read_5 (rc rfl) (by decide) ?_
  refine j_aload_n hX 1 dX8_read_7 rfl rfl ?_
  refine j_iload_n hX 2 dX8_read_8 rfl rfl ?_
  obtain ⟨x2, h1, h⟩ := bs h
  refine j_callVI hX mwX7_sizeOf miX7_sizeOf wd699 cbX7 ty19 hyX7_sizeOf (by omega) (by decide) ⟨Nat.zero_le _, Nat.zero_le _⟩ dX8_read_9 (s_X7_sizeOf hfl hE h1) npX7_sizeOf rfl (Nat.le_of_ble_eq_true rfl) ?_
  refine j_mmin hX wd700 (by omega) ⟨Nat.zero_le _, Nat.zero_le _⟩ dX8_read_12 rfl ?_
  refine j_istore_n (L' := [(3, vI (g_J9_min_7cf53 12 x2)), (0, vR 30), (1, vR 19), (2, vI (a2))]) hX dX8_read_15 rfl hnl (by decide) rfl ?_
  refine j_iconst hX dX8_read_16 (rc rfl) ?_
  refine j_istore (L' := [(4, vI (0)), (3, vI (g_J9_min_7cf53 12 x2)), (0, vR 30), (1, vR 19), (2, vI (a2))]) hX dX8_read_17 hnl (by decide) rfl ?_
  refine j_sub [2, 3, 4, 1, 0] rfl ?_
  refine sl_X8_read_19 hX hR hfl hnl hE  _ _ _ h
theorem sl_X8_costs_6 {X : K0} {B : Nat → Nat} {n : Nat} {E : Mem → Mem} {r : Int} {S' : Mem} (hX : Ctx X cX8_costs "TelegramFeelings$Telegram" 4) (hR : CR X (some .int)) (hfl : (gX X).2.2.2.2 = true) (hnl : X.2.2.2.2.2.2.2.2.2.2.2.2.2.2 = 4) (hE : Lens E PC)    : ∀ (fu : Nat) (v1 : Int) (v2 : Int) (v3 : Int) (S : Mem), g_X8_costs_L6 fu v1 v2 v3 S = some (r, S') → JW X B n 0 0 6 [(0, vR 30), (1, vI (v1)), (2, vI (v2)), (3, vI (v3))] [] (E S) (QM X (QcI (gX X) B n r (E S'))) := by
  intro fu
  induction fu with
  | zero =>
    intro v1 v2 v3 S h
    rw [g_X8_costs_L6] at h
    cases h
  | succ fu ih =>
    intro v1 v2 v3 S h
    rw [g_X8_costs_L6] at h
    refine j_iload_n hX 3 dX8_costs_6 rfl rfl ?_
    refine j_aload_n hX 0 dX8_costs_7 rfl rfl ?_
    refine j_getI (k := 5) hX hE cbX8 ty30 pc30 (by decide) rfl wd250 rfl dX8_costs_8 ?_
    refine j_icmp_ge hX (tgt := 71) dX8_costs_11 (by decide) (fun hc => ?_) (fun hc => ?_)
    · rw [if_pos hc] at h
      refine j_iload_n hX 1 dX8_costs_71 rfl rfl ?_
      cases h
      exact j_iret hX hR dX8_costs_72
    · rw [if_neg hc] at h
      refine j_iload_n hX 3 dX8_costs_14 rfl rfl ?_
      refine j_bipush hX dX8_costs_15 (rc rfl) (by decide) ?_
      refine j_icmp_ge hX (tgt := 71) dX8_costs_17 (by decide) (fun hc => ?_) (fun hc => ?_)
      · rw [if_pos hc] at h
        refine j_iload_n hX 1 dX8_costs_71 rfl rfl ?_
        cases h
        exact j_iret hX hR dX8_costs_72
      · rw [if_neg hc] at h
        refine j_aload_n hX 0 dX8_costs_20 rfl rfl ?_
        refine j_getS (k := 3) hX hfl cbX8 ty30 (by decide) rfl wd248 rfl sb30_3 dX8_costs_21 ?_
        refine j_iload_n hX 3 dX8_costs_24 rfl rfl ?_
        refine j_aload_n hX 0 dX8_costs_25 rfl rfl ?_
        refine j_getS (k := 1) hX hfl cbX8 ty30 (by decide) rfl wd246 rfl sb30_1 dX8_costs_26 ?_
        refine j_aload_n hX 0 dX8_costs_29 rfl rfl ?_
        refine j_getS (k := 2) hX hfl cbX8 ty30 (by decide) rfl wd247 rfl sb30_2 dX8_costs_30 ?_
        refine j_iload_n hX 3 dX8_costs_33 rfl rfl ?_
        obtain ⟨x1, hv, h⟩ := bs h
        refine j_iald hX hE ty31 pc31 hv dX8_costs_34 ?_
        refine j_iload_n hX 2 dX8_costs_35 rfl rfl ?_
        refine j_iload_n hX 3 dX8_costs_36 rfl rfl ?_
        obtain ⟨x3, S2, h1, h⟩ := bd2_s h
        refine j_callVI hX mwX4_priceOf miX4_priceOf wd707 cbX4 ty13 hyX4_priceOf (by omega) (by decide) ⟨Nat.zero_le _, Nat.zero_le _⟩ dX8_costs_37 (s_X4_priceOf hfl hE h1) npX4_priceOf rfl (Nat.le_of_ble_eq_true rfl) ?_
        obtain ⟨S4, hv, h⟩ := bs h
        refine j_iast hX hE ty32 pc32 hv dX8_costs_40 ?_
        refine j_iload_n hX 1 dX8_costs_41 rfl rfl ?_
        refine j_aload_n hX 0 dX8_costs_42 rfl rfl ?_
        refine j_getS (k := 3) hX hfl cbX8 ty30 (by decide) rfl wd248 rfl sb30_3 dX8_costs_43 ?_
        refine j_iload_n hX 3 dX8_costs_46 rfl rfl ?_
        obtain ⟨x5, hv, h⟩ := bs h
        refine j_iald hX hE ty32 pc32 hv dX8_costs_47 ?_
        refine j_iadd hX dX8_costs_48 ?_
        refine j_istore_n (L' := [(1, vI (w32 (v1 + x5))), (0, vR 30), (2, vI (v2)), (3, vI (v3))]) hX dX8_costs_49 rfl hnl (by decide) rfl ?_
        refine j_aload_n hX 1 dX8_costs_50 rfl rfl ?_
        refine j_getS (k := 0) hX hfl cbX8 ty30 (by decide) rfl wd245 rfl sb30_0 dX8_costs_51 ?_
        refine j_aload_n hX 1 dX8_costs_54 rfl rfl ?_
        refine j_getS (k := 2) hX hfl cbX8 ty30 (by decide) rfl wd247 rfl sb30_2 dX8_costs_55 ?_
        refine j_iload_n hX 3 dX8_costs_58 rfl rfl ?_
        obtain ⟨x6, hv, h⟩ := bs h
        refine j_iald hX hE ty31 pc31 hv dX8_costs_59 ?_
        refine j_iconst hX dX8_costs_60 (rc rfl) ?_
        obtain ⟨x7, h1, h⟩ := bs h
        refine j_callVI hX mwX5_value miX5_value wd708 cbX5 ty1 hyX5_value (by omega) (by decide) ⟨Nat.zero_le _, Nat.zero_le _⟩ dX8_costs_61 (s_X5_value hfl hE h1) npX5_value rfl (Nat.le_of_ble_eq_true rfl) ?_
        refine j_istore_n (L' := [(2, vI (x7)), (1, vI (w32 (v1 + x5))), (0, vR 30), (3, vI (v3))]) hX dX8_costs_64 rfl hnl (by decide) rfl ?_
        refine j_iinc (L' := [(3, vI (w32 (v3 + 1))), (2, vI (x7)), (1, vI (w32 (v1 + x5))), (0, vR 30)]) hX 3 dX8_costs_65 hnl (by decide) rfl rfl ?_
        refine j_goto hX (tgt := 6) dX8_costs_68 (by decide) ?_
        refine j_sub [3, 2, 1, 0] rfl ?_
        exact ih _ _ _ _ h
theorem s_X8_costs {g : G0} {B : Nat → Nat} {n : Nat} {E : Mem → Mem}  {S : Mem} {r : Int} {S' : Mem} (hfl : g.2.2.2.2 = true) (hE : Lens E PC) (h : g_X8_costs S = some (r, S')) : Cn g B n yX8_costs cX8_costs 4 (some .int) 4 [vR 30] (E S) (QcI g B n r (E S')) := by
  refine Cn.of (by decide +kernel) (Nat.le_of_ble_eq_true rfl) (fun X hg hnl hX hR => ?_)
  subst hg
  have hX : Ctx X cX8_costs "TelegramFeelings$Telegram" 4 := hX
  unfold g_X8_costs at h
  show JW X B n 0 0 0 [(0, vR 30)] [] (E S) (QM X (QcI (gX X) B n r (E S')))
  refine j_iconst hX dX8_costs_0 (rc rfl) ?_
  refine j_istore_n (L' := [(1, vI (0)), (0, vR 30)]) hX dX8_costs_1 rfl hnl (by decide) rfl ?_
  refine j_iconst hX dX8_costs_2 (rc rfl) ?_
  refine j_istore_n (L' := [(2, vI (3)), (1, vI (0)), (0, vR 30)]) hX dX8_costs_3 rfl hnl (by decide) rfl ?_
  refine j_iconst hX dX8_costs_4 (rc rfl) ?_
  refine j_istore_n (L' := [(3, vI (0)), (2, vI (3)), (1, vI (0)), (0, vR 30)]) hX dX8_costs_5 rfl hnl (by decide) rfl ?_
  refine j_sub [3, 2, 1, 0] rfl ?_
  refine sl_X8_costs_6 hX hR hfl hnl hE  _ _ _ _ _ h
theorem s_X8_senseOf {g : G0} {B : Nat → Nat} {n : Nat} {E : Mem → Mem}  {S : Mem} {r : Int} (hfl : g.2.2.2.2 = true) (hE : Lens E PC) (h : g_X8_senseOf S = some r) : Cn g B n yX8_senseOf cX8_senseOf 1 (some .int) 4 [vR 30] (E S) (QcI g B n r (E S)) := by
  refine Cn.of (by decide +kernel) (Nat.le_of_ble_eq_true rfl) (fun X hg hnl hX hR => ?_)
  subst hg
  have hX : Ctx X cX8_senseOf "TelegramFeelings$Telegram" 4 := hX
  unfold g_X8_senseOf at h
  show JW X B n 0 0 0 [(0, vR 30)] [] (E S) (QM X (QcI (gX X) B n r (E S)))
  refine j_aload_n hX 0 dX8_senseOf_0 rfl rfl ?_
  refine j_aload_n hX 0 dX8_senseOf_1 rfl rfl ?_
  refine j_getI (k := 5) hX hE cbX8 ty30 pc30 (by decide) rfl wd250 rfl dX8_senseOf_2 ?_
  obtain ⟨x1, h1, h⟩ := bs h
  refine j_callVI hX mwX8_senseOfFirst miX8_senseOfFirst wd713 cbX8 ty30 hyX8_senseOfFirst (by omega) (by decide) ⟨Nat.zero_le _, Nat.zero_le _⟩ dX8_senseOf_5 (s_X8_senseOfFirst hfl hE h1) npX8_senseOfFirst rfl (Nat.le_of_ble_eq_true rfl) ?_
  cases h
  exact j_iret hX hR dX8_senseOf_8
theorem sl_X8_isRight_4 {X : K0} {B : Nat → Nat} {n : Nat} {E : Mem → Mem} {r : Int} (hX : Ctx X cX8_isRight "TelegramFeelings$Telegram" 3) (hR : CR X (some .boolean)) (hfl : (gX X).2.2.2.2 = true) (hnl : X.2.2.2.2.2.2.2.2.2.2.2.2.2.2 = 4) (hE : Lens E PC) {k51 : Int → Option Int}  {S : Mem} (K51 : ∀ (v1 : Int), k51 v1 = some r → JW X B n 0 0 51 [(1, vI (v1))] [] (E S) (QM X (QcI (gX X) B n r (E S)))) : ∀ (fu : Nat) (v1 : Int) (v2 : Int), g_X8_isRight_L4 k51 S fu v1 v2 = some r → JW X B n 0 0 4 [(0, vR 30), (1, vI (v1)), (2, vI (v2))] [] (E S) (QM X (QcI (gX X) B n r (E S))) := by
  intro fu
  induction fu with
  | zero =>
    intro v1 v2 h
    rw [g_X8_isRight_L4] at h
    cases h
  | succ fu ih =>
    intro v1 v2 h
    rw [g_X8_isRight_L4] at h
    refine j_iload_n hX 2 dX8_isRight_4 rfl rfl ?_
    refine j_aload_n hX 0 dX8_isRight_5 rfl rfl ?_
    refine j_getI (k := 5) hX hE cbX8 ty30 pc30 (by decide) rfl wd250 rfl dX8_isRight_6 ?_
    refine j_icmp_ge hX (tgt := 51) dX8_isRight_9 (by decide) (fun hc => ?_) (fun hc => ?_)
    · rw [if_pos hc] at h
      refine j_sub [1] rfl ?_
      exact K51 _ h
    · rw [if_neg hc] at h
      refine j_iload_n hX 2 dX8_isRight_12 rfl rfl ?_
      refine j_bipush hX dX8_isRight_13 (rc rfl) (by decide) ?_
      refine j_icmp_ge hX (tgt := 51) dX8_isRight_15 (by decide) (fun hc => ?_) (fun hc => ?_)
      · rw [if_pos hc] at h
        refine j_sub [1] rfl ?_
        exact K51 _ h
      · rw [if_neg hc] at h
        refine j_aload_n hX 0 dX8_isRight_18 rfl rfl ?_
        refine j_getS (k := 0) hX hfl cbX8 ty30 (by decide) rfl wd245 rfl sb30_0 dX8_isRight_19 ?_
        refine j_aload_n hX 0 dX8_isRight_22 rfl rfl ?_
        refine j_getS (k := 2) hX hfl cbX8 ty30 (by decide) rfl wd247 rfl sb30_2 dX8_isRight_23 ?_
        refine j_iload_n hX 2 dX8_isRight_26 rfl rfl ?_
        obtain ⟨x1, hv, h⟩ := bs h
        refine j_iald hX hE ty31 pc31 hv dX8_isRight_27 ?_
        refine j_iconst hX dX8_isRight_28 (rc rfl) ?_
        obtain ⟨x2, h1, h⟩ := bs h
        refine j_callVI hX mwX5_value miX5_value wd708 cbX5 ty1 hyX5_value (by omega) (by decide) ⟨Nat.zero_le _, Nat.zero_le _⟩ dX8_isRight_29 (s_X5_value hfl hE h1) npX5_value rfl (Nat.le_of_ble_eq_true rfl) ?_
        refine j_istore_n (L' := [(3, vI (x2)), (0, vR 30), (1, vI (v1)), (2, vI (v2))]) hX dX8_isRight_32 rfl hnl (by decide) rfl ?_
        refine j_iload_n hX 2 dX8_isRight_33 rfl rfl ?_
        refine j_iload_n hX 0 dX8_isRight_34 rfl rfl ?_
        refine j_callSI hX mwX8_follows msX8_follows wd721 hyX8_follows (by omega) (by decide) ⟨Nat.zero_le _, Nat.zero_le _⟩ dX8_isRight_35 (s_X8_follows hfl rfl) npX8_follows rfl (Nat.le_of_ble_eq_true rfl) ?_
        refine j_if_ne hX (tgt := 43) dX8_isRight_38 (by decide) (fun hc => ?_) (fun hc => ?_)
        · rw [if_neg hc] at h
          refine j_iload_n hX 0 dX8_isRight_43 rfl rfl ?_
          refine j_istore_n (L' := [(1, vI (x2)), (3, vI (x2)), (0, vR 30), (2, vI (v2))]) hX dX8_isRight_44 rfl hnl (by decide) rfl ?_
          refine j_iinc (L' := [(2, vI (w32 (v2 + 1))), (1, vI (x2)), (3, vI (x2)), (0, vR 30)]) hX 3 dX8_isRight_45 hnl (by decide) rfl rfl ?_
          refine j_goto hX (tgt := 4) dX8_isRight_48 (by decide) ?_
          refine j_sub [3, 1, 0] rfl ?_
          exact ih _ _ h
        · rw [if_pos hc] at h
          refine j_iconst hX dX8_isRight_41 (rc rfl) ?_
          cases h
          exact j_zret hX hR (Or.inl rfl) dX8_isRight_42
theorem s_X8_isRight {g : G0} {B : Nat → Nat} {n : Nat} {E : Mem → Mem}  {S : Mem} {r : Int} (hfl : g.2.2.2.2 = true) (hE : Lens E PC) (h : g_X8_isRight S = some r) : Cn g B n yX8_isRight cX8_isRight 4 (some .boolean) 3 [vR 30] (E S) (QcI g B n r (E S)) := by
  refine Cn.of (by decide +kernel) (Nat.le_of_ble_eq_true rfl) (fun X hg hnl hX hR => ?_)
  subst hg
  have hX : Ctx X cX8_isRight "TelegramFeelings$Telegram" 3 := hX
  unfold g_X8_isRight at h
  show JW X B n 0 0 0 [(0, vR 30)] [] (E S) (QM X (QcI (gX X) B n r (E S)))
  refine j_iconst hX dX8_isRight_0 (rc rfl) ?_
  refine j_istore_n (L' := [(1, vI (3)), (0, vR 30)]) hX dX8_isRight_1 rfl hnl (by decide) rfl ?_
  refine j_iconst hX dX8_isRight_2 (rc rfl) ?_
  refine j_istore_n (L' := [(2, vI (0)), (1, vI (3)), (0, vR 30)]) hX dX8_isRight_3 rfl hnl (by decide) rfl ?_
  refine j_sub [2, 1, 0] rfl ?_
  refine sl_X8_isRight_4 hX hR hfl hnl hE (fun y3 h => ?_) _ _ _ h
  refine j_iload_n hX 0 dX8_isRight_51 rfl rfl ?_
  refine j_callSI hX mwX8_mayEnd msX8_mayEnd wd724 hyX8_mayEnd (by omega) (by decide) ⟨Nat.zero_le _, Nat.zero_le _⟩ dX8_isRight_52 (s_X8_mayEnd hfl rfl) npX8_mayEnd rfl (Nat.le_of_ble_eq_true rfl) ?_
  obtain ⟨hz, h⟩ := chk_s h
  cases h
  exact j_zret hX hR hz dX8_isRight_55
theorem sl_X8_joined_46 {X : K0} {B : Nat → Nat} {n : Nat} {E : Mem → Mem} {r : Int} {S' : Mem} (hX : Ctx X cX8_joined "TelegramFeelings$Telegram" 5) (hR : CR X (some .int)) (hfl : (gX X).2.2.2.2 = true) (hnl : X.2.2.2.2.2.2.2.2.2.2.2.2.2.2 = 7) (hE : Lens E PC) {k124 : Int → Mem → Option (Int × Mem)} {v1 : Int} {v2 : Int} (K124 : ∀ (v5 : Int) (S : Mem), k124 v5 S = some (r, S') → JW X B n 0 0 124 [(0, vR 30), (1, vI (v1)), (2, vI (v2)), (5, vI (v5))] [] (E S) (QM X (QcI (gX X) B n r (E S')))) : ∀ (fu : Nat) (v3 : Int) (v4 : Int) (v5 : Int) (v6 : Int) (S : Mem), g_X8_joined_L46 k124 v1 v2 fu v3 v4 v5 v6 S = some (r, S') → JW X B n 0 0 46 [(0, vR 30), (1, vI (v1)), (2, vI (v2)), (3, vI (v3)), (4, vI (v4)), (5, vI (v5)), (6, vI (v6))] [] (E S) (QM X (QcI (gX X) B n r (E S'))) := by
  intro fu
  induction fu with
  | zero =>
    intro v3 v4 v5 v6 S h
    rw [g_X8_joined_L46] at h
    cases h
  | succ fu ih =>
    intro v3 v4 v5 v6 S h
    rw [g_X8_joined_L46] at h
    refine j_iload hX 6 dX8_joined_46 rfl ?_
    refine j_if_lt hX (tgt := 124) dX8_joined_48 (by decide) (fun hc => ?_) (fun hc => ?_)
    · rw [if_pos hc] at h
      refine j_sub [0, 1, 2, 5] rfl ?_
      exact K124 _ _ h
    · rw [if_neg hc] at h
      refine j_iload_n hX 3 dX8_joined_51 rfl rfl ?_
      refine j_aload_n hX 0 dX8_joined_52 rfl rfl ?_
      refine j_getS (k := 0) hX hfl cbX8 ty30 (by decide) rfl wd245 rfl sb30_0 dX8_joined_53 ?_
      refine j_aload_n hX 0 dX8_joined_56 rfl rfl ?_
      refine j_getS (k := 2) hX hfl cbX8 ty30 (by decide) rfl wd247 rfl sb30_2 dX8_joined_57 ?_
      refine j_iload hX 6 dX8_joined_60 rfl ?_
      obtain ⟨x4, hv, h⟩ := bs h
      refine j_iald hX hE ty31 pc31 hv dX8_joined_62 ?_
      refine j_iconst hX dX8_joined_63 (rc rfl) ?_
      obtain ⟨x5, h1, h⟩ := bs h
      refine j_callVI hX mwX5_value miX5_value wd708 cbX5 ty1 hyX5_value (by omega) (by decide) ⟨Nat.zero_le _, Nat.zero_le _⟩ dX8_joined_64 (s_X5_value hfl hE h1) npX5_value rfl (Nat.le_of_ble_eq_true rfl) ?_
      refine j_iadd hX dX8_joined_67 ?_
      refine j_istore_n (L' := [(3, vI (w32 (v3 + x5))), (0, vR 30), (1, vI (v1)), (2, vI (v2)), (4, vI (v4)), (5, vI (v5)), (6, vI (v6))]) hX dX8_joined_68 rfl hnl (by decide) rfl ?_
      refine j_iload hX 4 dX8_joined_69 rfl ?_
      refine j_aload_n hX 1 dX8_joined_71 rfl rfl ?_
      refine j_getS (k := 3) hX hfl cbX8 ty30 (by decide) rfl wd248 rfl sb30_3 dX8_joined_72 ?_
      refine j_iload hX 6 dX8_joined_75 rfl ?_
      obtain ⟨x6, hv, h⟩ := bs h
      refine j_iald hX hE ty32 pc32 hv dX8_joined_77 ?_
      refine j_mmax hX wd737 (by omega) ⟨Nat.zero_le _, Nat.zero_le _⟩ dX8_joined_78 rfl ?_
      refine j_istore (L' := [(4, vI (g_J9_max_7cf53 v4 x6)), (3, vI (w32 (v3 + x5))), (0, vR 30), (1, vI (v1)), (2, vI (v2)), (5, vI (v5)), (6, vI (v6))]) hX dX8_joined_81 hnl (by decide) rfl ?_
      refine j_iload_n hX 1 dX8_joined_83 rfl rfl ?_
      refine j_iload_n hX 3 dX8_joined_84 rfl rfl ?_
      refine j_icmp_le hX (tgt := 96) dX8_joined_85 (by decide) (fun hc => ?_) (fun hc => ?_)
      · rw [if_pos hc] at h
        refine j_iload hX 5 dX8_joined_96 rfl ?_
        refine j_aload_n hX 2 dX8_joined_98 rfl rfl ?_
        refine j_getS (k := 4) hX hfl cbX8 ty30 (by decide) rfl wd249 rfl sb30_4 dX8_joined_99 ?_
        refine j_iload hX 6 dX8_joined_102 rfl ?_
        obtain ⟨x7, hv, h⟩ := bs h
        refine j_iald hX hE ty33 pc33 hv dX8_joined_104 ?_
        refine j_iload hX 0 dX8_joined_105 rfl ?_
        refine j_bipush hX dX8_joined_107 (rc rfl) (by decide) ?_
        refine j_imul hX dX8_joined_109 ?_
        refine j_iadd hX dX8_joined_110 ?_
        refine j_iconst hX dX8_joined_111 (rc rfl) ?_
        refine j_iadd hX dX8_joined_112 ?_
        refine j_mmin hX wd700 (by omega) ⟨Nat.zero_le _, Nat.zero_le _⟩ dX8_joined_113 rfl ?_
        obtain ⟨x8, hx, h⟩ := ap_s h
        rw [← hx]
        clear hx
        refine j_istore (L' := [(5, vI (x8)), (4, vI (g_J9_max_7cf53 v4 x6)), (3, vI (w32 (v3 + x5))), (0, vR 30), (1, vI (v1)), (2, vI (v2)), (6, vI (v6))]) hX dX8_joined_116 hnl (by decide) rfl ?_
        refine j_iinc (L' := [(6, vI (w32 (v6 + (-1)))), (5, vI (x8)), (4, vI (g_J9_max_7cf53 v4 x6)), (3, vI (w32 (v3 + x5))), (0, vR 30), (1, vI (v1)), (2, vI (v2))]) hX 6 dX8_joined_118 hnl (by decide) rfl rfl ?_
        refine j_goto hX (tgt := 46) dX8_joined_121 (by decide) ?_
        refine j_sub [4, 5, 6, 3, 2, 1, 0] rfl ?_
        exact ih _ _ _ _ _ h
      · rw [if_neg hc] at h
        refine j_iload hX 6 dX8_joined_88 rfl ?_
        refine j_iload_n hX 4 dX8_joined_90 rfl rfl ?_
        refine j_iconst hX dX8_joined_91 (rc rfl) ?_
        refine j_isub hX dX8_joined_92 ?_
        refine j_icmp_ne hX (tgt := 118) dX8_joined_93 (by decide) (fun hc => ?_) (fun hc => ?_)
        · rw [if_neg hc] at h
          refine j_iinc (L' := [(6, vI (w32 (v6 + (-1)))), (4, vI (g_J9_max_7cf53 v4 x6)), (3, vI (w32 (v3 + x5))), (0, vR 30), (1, vI (v1)), (2, vI (v2)), (5, vI (v5))]) hX 6 dX8_joined_118 hnl (by decide) rfl rfl ?_
          refine j_goto hX (tgt := 46) dX8_joined_121 (by decide) ?_
          refine j_sub [3, 4, 5, 2, 1, 6, 0] rfl ?_
          exact ih _ _ _ _ _ h
        · rw [if_pos hc] at h
          refine j_iload hX 5 dX8_joined_96 rfl ?_
          refine j_aload_n hX 2 dX8_joined_98 rfl rfl ?_
          refine j_getS (k := 4) hX hfl cbX8 ty30 (by decide) rfl wd249 rfl sb30_4 dX8_joined_99 ?_
          refine j_iload hX 6 dX8_joined_102 rfl ?_
          obtain ⟨x9, hv, h⟩ := bs h
          refine j_iald hX hE ty33 pc33 hv dX8_joined_104 ?_
          refine j_iload hX 0 dX8_joined_105 rfl ?_
          refine j_bipush hX dX8_joined_107 (rc rfl) (by decide) ?_
          refine j_imul hX dX8_joined_109 ?_
          refine j_iadd hX dX8_joined_110 ?_
          refine j_iconst hX dX8_joined_111 (rc rfl) ?_
          refine j_iadd hX dX8_joined_112 ?_
          refine j_mmin hX wd700 (by omega) ⟨Nat.zero_le _, Nat.zero_le _⟩ dX8_joined_113 rfl ?_
          obtain ⟨x10, hx, h⟩ := ap_s h
          rw [← hx]
          clear hx
          refine j_istore (L' := [(5, vI (x10)), (4, vI (g_J9_max_7cf53 v4 x6)), (3, vI (w32 (v3 + x5))), (0, vR 30), (1, vI (v1)), (2, vI (v2)), (6, vI (v6))]) hX dX8_joined_116 hnl (by decide) rfl ?_
          refine j_iinc (L' := [(6, vI (w32 (v6 + (-1)))), (5, vI (x10)), (4, vI (g_J9_max_7cf53 v4 x6)), (3, vI (w32 (v3 + x5))), (0, vR 30), (1, vI (v1)), (2, vI (v2))]) hX 6 dX8_joined_118 hnl (by decide) rfl rfl ?_
          refine j_goto hX (tgt := 46) dX8_joined_121 (by decide) ?_
          refine j_sub [4, 5, 6, 3, 2, 1, 0] rfl ?_
          exact ih _ _ _ _ _ h
theorem sl_X8_joined_18 {X : K0} {B : Nat → Nat} {n : Nat} {E : Mem → Mem} {r : Int} {S' : Mem} (hX : Ctx X cX8_joined "TelegramFeelings$Telegram" 5) (hR : CR X (some .int)) (hfl : (gX X).2.2.2.2 = true) (hnl : X.2.2.2.2.2.2.2.2.2.2.2.2.2.2 = 7) (hE : Lens E PC) {k138 : Mem → Option (Int × Mem)} {v1 : Int} (K138 : ∀ (S : Mem), k138 S = some (r, S') → JW X B n 0 0 138 [(0, vR 30)] [] (E S) (QM X (QcI (gX X) B n r (E S')))) : ∀ (fu : Nat) (v2 : Int) (S : Mem), g_X8_joined_L18 k138 v1 fu v2 S = some (r, S') → JW X B n 0 0 18 [(0, vR 30), (1, vI (v1)), (2, vI (v2))] [] (E S) (QM X (QcI (gX X) B n r (E S'))) := by
  intro fu
  induction fu with
  | zero =>
    intro v2 S h
    rw [g_X8_joined_L18] at h
    cases h
  | succ fu ih =>
    intro v2 S h
    rw [g_X8_joined_L18] at h
    refine j_iload_n hX 2 dX8_joined_18 rfl rfl ?_
    refine j_aload_n hX 0 dX8_joined_19 rfl rfl ?_
    refine j_getI (k := 5) hX hE cbX8 ty30 pc30 (by decide) rfl wd250 rfl dX8_joined_20 ?_
    refine j_icmp_gt hX (tgt := 138) dX8_joined_23 (by decide) (fun hc => ?_) (fun hc => ?_)
    · rw [if_pos hc] at h
      refine j_sub [0] rfl ?_
      exact K138 _ h
    · rw [if_neg hc] at h
      refine j_iload_n hX 2 dX8_joined_26 rfl rfl ?_
      refine j_bipush hX dX8_joined_27 (rc rfl) (by decide) ?_
      refine j_icmp_gt hX (tgt := 138) dX8_joined_29 (by decide) (fun hc => ?_) (fun hc => ?_)
      · rw [if_pos hc] at h
        refine j_sub [0] rfl ?_
        exact K138 _ h
      · rw [if_neg hc] at h
        refine j_iconst hX dX8_joined_32 (rc rfl) ?_
        refine j_istore_n (L' := [(3, vI (0)), (0, vR 30), (1, vI (v1)), (2, vI (v2))]) hX dX8_joined_33 rfl hnl (by decide) rfl ?_
        refine j_iconst hX dX8_joined_34 (rc rfl) ?_
        refine j_istore (L' := [(4, vI (0)), (3, vI (0)), (0, vR 30), (1, vI (v1)), (2, vI (v2))]) hX dX8_joined_35 hnl (by decide) rfl ?_
        refine j_ldc (z := 2147483647) hX wd736 (by decide) dX8_joined_37 (rc rfl) ?_
        refine j_istore (L' := [(5, vI (2147483647)), (4, vI (0)), (3, vI (0)), (0, vR 30), (1, vI (v1)), (2, vI (v2))]) hX dX8_joined_39 hnl (by decide) rfl ?_
        refine j_iload_n hX 5 dX8_joined_41 rfl rfl ?_
        refine j_iconst hX dX8_joined_42 (rc rfl) ?_
        refine j_isub hX dX8_joined_43 ?_
        refine j_istore (L' := [(6, vI (w32 (v2 - 1))), (5, vI (2147483647)), (4, vI (0)), (3, vI (0)), (0, vR 30), (1, vI (v1)), (2, vI (v2))]) hX dX8_joined_44 hnl (by decide) rfl ?_
        refine j_sub [4, 5, 6, 3, 2, 1, 0] rfl ?_
        refine sl_X8_joined_46 hX hR hfl hnl hE (fun y12 S11 h => ?_) _ _ _ _ _ _ h
        refine j_aload_n hX 0 dX8_joined_124 rfl rfl ?_
        refine j_getS (k := 4) hX hfl cbX8 ty30 (by decide) rfl wd249 rfl sb30_4 dX8_joined_125 ?_
        refine j_iload_n hX 2 dX8_joined_128 rfl rfl ?_
        refine j_iload hX 3 dX8_joined_129 rfl ?_
        obtain ⟨S13, hv, h⟩ := bs h
        refine j_iast hX hE ty33 pc33 hv dX8_joined_131 ?_
        refine j_iinc (L' := [(2, vI (w32 (v2 + 1))), (0, vR 30), (1, vI (v1)), (5, vI (y12))]) hX 2 dX8_joined_132 hnl (by decide) rfl rfl ?_
        refine j_goto hX (tgt := 18) dX8_joined_135 (by decide) ?_
        refine j_sub [1, 2, 0] rfl ?_
        exact ih _ _ h
theorem s_X8_joined {g : G0} {B : Nat → Nat} {n : Nat} {E : Mem → Mem}  {S : Mem} {r : Int} {S' : Mem} (hfl : g.2.2.2.2 = true) (hE : Lens E PC) (h : g_X8_joined S = some (r, S')) : Cn g B n yX8_joined cX8_joined 7 (some .int) 5 [vR 30] (E S) (QcI g B n r (E S')) := by
  refine Cn.of (by decide +kernel) (Nat.le_of_ble_eq_true rfl) (fun X hg hnl hX hR => ?_)
  subst hg
  have hX : Ctx X cX8_joined "TelegramFeelings$Telegram" 5 := hX
  unfold g_X8_joined at h
  show JW X B n 0 0 0 [(0, vR 30)] [] (E S) (QM X (QcI (gX X) B n r (E S')))
  refine j_aload_n hX 0 dX8_joined_0 rfl rfl ?_
  obtain ⟨x2, S1, h1, h⟩ := bd2_s h
  refine j_callVI hX mwX8_costs miX8_costs wd735 cbX8 ty30 hyX8_costs (by omega) (by decide) ⟨Nat.zero_le _, Nat.zero_le _⟩ dX8_joined_1 (s_X8_costs hfl hE h1) npX8_costs rfl (Nat.le_of_ble_eq_true rfl) ?_
  refine j_pop hX dX8_joined_4 rfl ?_
  refine j_aload_n hX 0 dX8_joined_5 rfl rfl ?_
  refine j_getS (k := 0) hX hfl cbX8 ty30 (by decide) rfl wd245 rfl sb30_0 dX8_joined_6 ?_
  refine j_iconst hX dX8_joined_9 (rc rfl) ?_
  refine j_bipush hX dX8_joined_10 (rc rfl) (by decide) ?_
  obtain ⟨x3, h1, h⟩ := bs h
  refine j_callVI hX mwX5_value miX5_value wd708 cbX5 ty1 hyX5_value (by omega) (by decide) ⟨Nat.zero_le _, Nat.zero_le _⟩ dX8_joined_12 (s_X5_value hfl hE h1) npX5_value rfl (Nat.le_of_ble_eq_true rfl) ?_
  refine j_istore_n (L' := [(1, vI (x3)), (0, vR 30)]) hX dX8_joined_15 rfl hnl (by decide) rfl ?_
  refine j_iconst hX dX8_joined_16 (rc rfl) ?_
  refine j_istore_n (L' := [(2, vI (1)), (1, vI (x3)), (0, vR 30)]) hX dX8_joined_17 rfl hnl (by decide) rfl ?_
  refine j_sub [2, 1, 0] rfl ?_
  refine sl_X8_joined_18 hX hR hfl hnl hE (fun S14 h => ?_) _ _ _ h
  refine j_aload_n hX 0 dX8_joined_138 rfl rfl ?_
  refine j_getI (k := 5) hX hE cbX8 ty30 pc30 (by decide) rfl wd250 rfl dX8_joined_139 ?_
  refine j_if_lt hX (tgt := 166) dX8_joined_142 (by decide) (fun hc => ?_) (fun hc => ?_)
  · rw [if_pos hc] at h
    refine j_iconst hX dX8_joined_166 (rc rfl) ?_
    cases h
    exact j_iret hX hR dX8_joined_167
  · rw [if_neg hc] at h
    refine j_aload_n hX 0 dX8_joined_145 rfl rfl ?_
    refine j_getI (k := 5) hX hE cbX8 ty30 pc30 (by decide) rfl wd250 rfl dX8_joined_146 ?_
    refine j_bipush hX dX8_joined_149 (rc rfl) (by decide) ?_
    refine j_icmp_gt hX (tgt := 166) dX8_joined_151 (by decide) (fun hc => ?_) (fun hc => ?_)
    · rw [if_pos hc] at h
      refine j_iconst hX dX8_joined_166 (rc rfl) ?_
      cases h
      exact j_iret hX hR dX8_joined_167
    · rw [if_neg hc] at h
      refine j_aload_n hX 0 dX8_joined_154 rfl rfl ?_
      refine j_getS (k := 4) hX hfl cbX8 ty30 (by decide) rfl wd249 rfl sb30_4 dX8_joined_155 ?_
      refine j_aload_n hX 0 dX8_joined_158 rfl rfl ?_
      refine j_getI (k := 5) hX hE cbX8 ty30 pc30 (by decide) rfl wd250 rfl dX8_joined_159 ?_
      obtain ⟨x15, hv, h⟩ := bs h
      refine j_iald hX hE ty33 pc33 hv dX8_joined_162 ?_
      refine j_goto hX (tgt := 167) dX8_joined_163 (by decide) ?_
      cases h
      exact j_iret hX hR dX8_joined_167
theorem s_X8_joinedPrice {g : G0} {B : Nat → Nat} {n : Nat} {E : Mem → Mem}  {S : Mem} {r : Int} {S' : Mem} (hfl : g.2.2.2.2 = true) (hE : Lens E PC) (h : g_X8_joinedPrice S = some (r, S')) : Cn g B n yX8_joinedPrice cX8_joinedPrice 1 (some .int) 6 [vR 30] (E S) (QcI g B n r (E S')) := by
  refine Cn.of (by decide +kernel) (Nat.le_of_ble_eq_true rfl) (fun X hg hnl hX hR => ?_)
  subst hg
  have hX : Ctx X cX8_joinedPrice "TelegramFeelings$Telegram" 6 := hX
  unfold g_X8_joinedPrice at h
  show JW X B n 0 0 0 [(0, vR 30)] [] (E S) (QM X (QcI (gX X) B n r (E S')))
  refine j_aload_n hX 0 dX8_joinedPrice_0 rfl rfl ?_
  obtain ⟨x2, S1, h1, h⟩ := bd2_s h
  refine j_callVI hX mwX8_joined miX8_joined wd731 cbX8 ty30 hyX8_joined (by omega) (by decide) ⟨Nat.zero_le _, Nat.zero_le _⟩ dX8_joinedPrice_1 (s_X8_joined hfl hE h1) npX8_joined rfl (Nat.le_of_ble_eq_true rfl) ?_
  refine j_bipush hX dX8_joinedPrice_4 (rc rfl) (by decide) ?_
  refine j_idiv hX dX8_joinedPrice_6 (by decide) ?_
  cases h
  exact j_iret hX hR dX8_joinedPrice_7
theorem s_X8_joinedRuns {g : G0} {B : Nat → Nat} {n : Nat} {E : Mem → Mem}  {S : Mem} {r : Int} {S' : Mem} (hfl : g.2.2.2.2 = true) (hE : Lens E PC) (h : g_X8_joinedRuns S = some (r, S')) : Cn g B n yX8_joinedRuns cX8_joinedRuns 1 (some .int) 6 [vR 30] (E S) (QcI g B n r (E S')) := by
  refine Cn.of (by decide +kernel) (Nat.le_of_ble_eq_true rfl) (fun X hg hnl hX hR => ?_)
  subst hg
  have hX : Ctx X cX8_joinedRuns "TelegramFeelings$Telegram" 6 := hX
  unfold g_X8_joinedRuns at h
  show JW X B n 0 0 0 [(0, vR 30)] [] (E S) (QM X (QcI (gX X) B n r (E S')))
  refine j_aload_n hX 0 dX8_joinedRuns_0 rfl rfl ?_
  obtain ⟨x2, S1, h1, h⟩ := bd2_s h
  refine j_callVI hX mwX8_joined miX8_joined wd731 cbX8 ty30 hyX8_joined (by omega) (by decide) ⟨Nat.zero_le _, Nat.zero_le _⟩ dX8_joinedRuns_1 (s_X8_joined hfl hE h1) npX8_joined rfl (Nat.le_of_ble_eq_true rfl) ?_
  refine j_bipush hX dX8_joinedRuns_4 (rc rfl) (by decide) ?_
  refine j_irem hX dX8_joinedRuns_6 (by decide) ?_
  cases h
  exact j_iret hX hR dX8_joinedRuns_7
theorem s_X9_word {g : G0} {B : Nat → Nat} {n : Nat} {E : Mem → Mem} {a1 : Int} {a2 : Int} {S : Mem} {r : Int} {S' : Mem} (hfl : g.2.2.2.2 = true) (hE : Lens E PC) (h : g_X9_word a1 a2 S = some (r, S')) : Cn g B n yX9_word cX9_word 3 (some .int) 4 [vR 0, vI (a1), vI (a2)] (E S) (QcI g B n r (E S')) := by
  refine Cn.of (by decide +kernel) (Nat.le_of_ble_eq_true rfl) (fun X hg hnl hX hR => ?_)
  subst hg
  have hX : Ctx X cX9_word "TelegramFeelings" 4 := hX
  unfold g_X9_word at h
  show JW X B n 0 0 0 [(0, vR 0), (1, vI (a1)), (2, vI (a2))] [] (E S) (QM X (QcI (gX X) B n r (E S')))
  refine j_aload_n hX 0 dX9_word_0 rfl rfl ?_
  refine j_getS (k := 0) hX hfl cbX9 ty0 (by decide) rfl wd404 rfl sb0_0 dX9_word_1 ?_
  refine j_iconst hX dX9_word_4 (rc rfl) ?_
  refine j_iload_n hX 1 dX9_word_5 rfl rfl ?_
  obtain ⟨x1, h1, h⟩ := bs h
  refine j_callVI hX mwX5_fits miX5_fits wd436 cbX5 ty1 hyX5_fits (by omega) (by decide) ⟨Nat.zero_le _, Nat.zero_le _⟩ dX9_word_6 (s_X5_fits hfl hE h1) npX5_fits rfl (Nat.le_of_ble_eq_true rfl) ?_
  refine j_if_eq hX (tgt := 24) dX9_word_9 (by decide) (fun hc => ?_) (fun hc => ?_)
  · rw [if_pos hc] at h
    refine j_iconst hX dX9_word_24 (rc rfl) ?_
    cases h
    exact j_iret hX hR dX9_word_25
  · rw [if_neg hc] at h
    refine j_aload_n hX 0 dX9_word_12 rfl rfl ?_
    refine j_getS (k := 0) hX hfl cbX9 ty0 (by decide) rfl wd404 rfl sb0_0 dX9_word_13 ?_
    refine j_iconst hX dX9_word_16 (rc rfl) ?_
    refine j_iload_n hX 2 dX9_word_17 rfl rfl ?_
    obtain ⟨x2, h1, h⟩ := bs h
    refine j_callVI hX mwX5_fits miX5_fits wd436 cbX5 ty1 hyX5_fits (by omega) (by decide) ⟨Nat.zero_le _, Nat.zero_le _⟩ dX9_word_18 (s_X5_fits hfl hE h1) npX5_fits rfl (Nat.le_of_ble_eq_true rfl) ?_
    refine j_if_ne hX (tgt := 26) dX9_word_21 (by decide) (fun hc => ?_) (fun hc => ?_)
    · rw [if_neg hc] at h
      refine j_aload_n hX 0 dX9_word_26 rfl rfl ?_
      refine j_getS (k := 0) hX hfl cbX9 ty0 (by decide) rfl wd404 rfl sb0_0 dX9_word_27 ?_
      refine j_iload_n hX 1 dX9_word_30 rfl rfl ?_
      refine j_iload_n hX 2 dX9_word_31 rfl rfl ?_
      refine j_iconst hX dX9_word_32 (rc rfl) ?_
      obtain ⟨x4, S3, h1, h⟩ := bd2_s h
      refine j_callVI hX mwX5_addWord miX5_addWord wd447 cbX5 ty1 hyX5_addWord (by omega) (by decide) ⟨Nat.zero_le _, Nat.zero_le _⟩ dX9_word_33 (s_X5_addWord hfl hE h1) npX5_addWord rfl (Nat.le_of_ble_eq_true rfl) ?_
      cases h
      exact j_iret hX hR dX9_word_36
    · rw [if_pos hc] at h
      refine j_iconst hX dX9_word_24 (rc rfl) ?_
      cases h
      exact j_iret hX hR dX9_word_25
theorem s_X9_wordFrom {g : G0} {B : Nat → Nat} {n : Nat} {E : Mem → Mem} {a1 : Int} {a2 : Int} {S : Mem} {r : Int} {S' : Mem} (hfl : g.2.2.2.2 = true) (hE : Lens E PC) (h : g_X9_wordFrom a1 a2 S = some (r, S')) : Cn g B n yX9_wordFrom cX9_wordFrom 6 (some .boolean) 4 [vR 0, vI (a1), vI (a2)] (E S) (QcI g B n r (E S')) := by
  refine Cn.of (by decide +kernel) (Nat.le_of_ble_eq_true rfl) (fun X hg hnl hX hR => ?_)
  subst hg
  have hX : Ctx X cX9_wordFrom "TelegramFeelings" 4 := hX
  unfold g_X9_wordFrom at h
  show JW X B n 0 0 0 [(0, vR 0), (1, vI (a1)), (2, vI (a2))] [] (E S) (QM X (QcI (gX X) B n r (E S')))
  refine j_aload_n hX 0 dX9_wordFrom_0 rfl rfl ?_
  refine j_getS (k := 2) hX hfl cbX9 ty0 (by decide) rfl wd406 rfl sb0_2 dX9_wordFrom_1 ?_
  refine j_iload_n hX 1 dX9_wordFrom_4 rfl rfl ?_
  refine j_iload_n hX 2 dX9_wordFrom_5 rfl rfl ?_
  obtain ⟨x1, h1, h⟩ := bs h
  refine j_callVL hX mwX7_at miX7_at wd480 cbX7 ty19 hyX7_at (by omega) (by decide) ⟨Nat.zero_le _, Nat.zero_le _⟩ dX9_wordFrom_6 (s_X7_at hfl hE h1) npX7_at rfl (Nat.le_of_ble_eq_true rfl) ?_
  refine j_l2i hX dX9_wordFrom_9 ?_
  refine j_istore_n (L' := [(3, vI (w32 x1)), (0, vR 0), (1, vI (a1)), (2, vI (a2))]) hX dX9_wordFrom_10 rfl hnl (by decide) rfl ?_
  refine j_aload_n hX 1 dX9_wordFrom_11 rfl rfl ?_
  refine j_getS (k := 2) hX hfl cbX9 ty0 (by decide) rfl wd406 rfl sb0_2 dX9_wordFrom_12 ?_
  refine j_iload_n hX 2 dX9_wordFrom_15 rfl rfl ?_
  refine j_iload_n hX 3 dX9_wordFrom_16 rfl rfl ?_
  refine j_iconst hX dX9_wordFrom_17 (rc rfl) ?_
  refine j_iadd hX dX9_wordFrom_18 ?_
  obtain ⟨x2, h1, h⟩ := bs h
  refine j_callVL hX mwX7_at miX7_at wd480 cbX7 ty19 hyX7_at (by omega) (by decide) ⟨Nat.zero_le _, Nat.zero_le _⟩ dX9_wordFrom_19 (s_X7_at hfl hE h1) npX7_at rfl (Nat.le_of_ble_eq_true rfl) ?_
  refine j_l2i hX dX9_wordFrom_22 ?_
  refine j_istore (L' := [(4, vI (w32 x2)), (3, vI (w32 x1)), (0, vR 0), (1, vI (a1)), (2, vI (a2))]) hX dX9_wordFrom_23 hnl (by decide) rfl ?_
  refine j_aload_n hX 2 dX9_wordFrom_25 rfl rfl ?_
  refine j_getS (k := 2) hX hfl cbX9 ty0 (by decide) rfl wd406 rfl sb0_2 dX9_wordFrom_26 ?_
  refine j_iload_n hX 3 dX9_wordFrom_29 rfl rfl ?_
  refine j_iload_n hX 4 dX9_wordFrom_30 rfl rfl ?_
  refine j_iconst hX dX9_wordFrom_31 (rc rfl) ?_
  refine j_iadd hX dX9_wordFrom_32 ?_
  obtain ⟨x3, h1, h⟩ := bs h
  refine j_callVL hX mwX7_at miX7_at wd480 cbX7 ty19 hyX7_at (by omega) (by decide) ⟨Nat.zero_le _, Nat.zero_le _⟩ dX9_wordFrom_33 (s_X7_at hfl hE h1) npX7_at rfl (Nat.le_of_ble_eq_true rfl) ?_
  refine j_l2i hX dX9_wordFrom_36 ?_
  refine j_istore (L' := [(5, vI (w32 x3)), (4, vI (w32 x2)), (3, vI (w32 x1)), (0, vR 0), (1, vI (a1)), (2, vI (a2))]) hX dX9_wordFrom_37 hnl (by decide) rfl ?_
  refine j_aload_n hX 3 dX9_wordFrom_39 rfl rfl ?_
  refine j_getS (k := 0) hX hfl cbX9 ty0 (by decide) rfl wd404 rfl sb0_0 dX9_wordFrom_40 ?_
  refine j_iconst hX dX9_wordFrom_43 (rc rfl) ?_
  refine j_iload_n hX 2 dX9_wordFrom_44 rfl rfl ?_
  obtain ⟨x4, h1, h⟩ := bs h
  refine j_callVI hX mwX5_fits miX5_fits wd436 cbX5 ty1 hyX5_fits (by omega) (by decide) ⟨Nat.zero_le _, Nat.zero_le _⟩ dX9_wordFrom_45 (s_X5_fits hfl hE h1) npX5_fits rfl (Nat.le_of_ble_eq_true rfl) ?_
  refine j_if_eq hX (tgt := 77) dX9_wordFrom_48 (by decide) (fun hc => ?_) (fun hc => ?_)
  · rw [if_pos hc] at h
    refine j_iconst hX dX9_wordFrom_77 (rc rfl) ?_
    cases h
    exact j_zret hX hR (Or.inl rfl) dX9_wordFrom_78
  · rw [if_neg hc] at h
    refine j_aload_n hX 3 dX9_wordFrom_51 rfl rfl ?_
    refine j_getS (k := 0) hX hfl cbX9 ty0 (by decide) rfl wd404 rfl sb0_0 dX9_wordFrom_52 ?_
    refine j_iconst hX dX9_wordFrom_55 (rc rfl) ?_
    refine j_iload hX 1 dX9_wordFrom_56 rfl ?_
    obtain ⟨x5, h1, h⟩ := bs h
    refine j_callVI hX mwX5_fits miX5_fits wd436 cbX5 ty1 hyX5_fits (by omega) (by decide) ⟨Nat.zero_le _, Nat.zero_le _⟩ dX9_wordFrom_58 (s_X5_fits hfl hE h1) npX5_fits rfl (Nat.le_of_ble_eq_true rfl) ?_
    refine j_if_eq hX (tgt := 77) dX9_wordFrom_61 (by decide) (fun hc => ?_) (fun hc => ?_)
    · rw [if_pos hc] at h
      refine j_iconst hX dX9_wordFrom_77 (rc rfl) ?_
      cases h
      exact j_zret hX hR (Or.inl rfl) dX9_wordFrom_78
    · rw [if_neg hc] at h
      refine j_aload_n hX 3 dX9_wordFrom_64 rfl rfl ?_
      refine j_getS (k := 0) hX hfl cbX9 ty0 (by decide) rfl wd404 rfl sb0_0 dX9_wordFrom_65 ?_
      refine j_iconst hX dX9_wordFrom_68 (rc rfl) ?_
      refine j_iload hX 0 dX9_wordFrom_69 rfl ?_
      obtain ⟨x6, h1, h⟩ := bs h
      refine j_callVI hX mwX5_fits miX5_fits wd436 cbX5 ty1 hyX5_fits (by omega) (by decide) ⟨Nat.zero_le _, Nat.zero_le _⟩ dX9_wordFrom_71 (s_X5_fits hfl hE h1) npX5_fits rfl (Nat.le_of_ble_eq_true rfl) ?_
      refine j_if_ne hX (tgt := 79) dX9_wordFrom_74 (by decide) (fun hc => ?_) (fun hc => ?_)
      · rw [if_neg hc] at h
        refine j_aload_n hX 3 dX9_wordFrom_79 rfl rfl ?_
        refine j_getS (k := 0) hX hfl cbX9 ty0 (by decide) rfl wd404 rfl sb0_0 dX9_wordFrom_80 ?_
        refine j_iload_n hX 2 dX9_wordFrom_83 rfl rfl ?_
        refine j_iload hX 1 dX9_wordFrom_84 rfl ?_
        refine j_iload hX 0 dX9_wordFrom_86 rfl ?_
        obtain ⟨x8, S7, h1, h⟩ := bd2_s h
        refine j_callVI hX mwX5_addWord miX5_addWord wd447 cbX5 ty1 hyX5_addWord (by omega) (by decide) ⟨Nat.zero_le _, Nat.zero_le _⟩ dX9_wordFrom_88 (s_X5_addWord hfl hE h1) npX5_addWord rfl (Nat.le_of_ble_eq_true rfl) ?_
        refine j_if_lt hX (tgt := 98) dX9_wordFrom_91 (by decide) (fun hc => ?_) (fun hc => ?_)
        · rw [if_pos hc] at h
          refine j_iconst hX dX9_wordFrom_98 (rc rfl) ?_
          cases h
          exact j_zret hX hR (Or.inl rfl) dX9_wordFrom_99
        · rw [if_neg hc] at h
          refine j_iconst hX dX9_wordFrom_94 (rc rfl) ?_
          refine j_goto hX (tgt := 99) dX9_wordFrom_95 (by decide) ?_
          cases h
          exact j_zret hX hR (Or.inr rfl) dX9_wordFrom_99
      · rw [if_pos hc] at h
        refine j_iconst hX dX9_wordFrom_77 (rc rfl) ?_
        cases h
        exact j_zret hX hR (Or.inl rfl) dX9_wordFrom_78
theorem sl_X9_words_55 {X : K0} {B : Nat → Nat} {n : Nat} {E : Mem → Mem} {r : Int} {S' : Mem} (hX : Ctx X cX9_words "TelegramFeelings" 5) (hR : CR X (some .int)) (hfl : (gX X).2.2.2.2 = true) (hnl : X.2.2.2.2.2.2.2.2.2.2.2.2.2.2 = 6) (hE : Lens E PC)  {v1 : Int} {v2 : Int} {v3 : Int}  : ∀ (fu : Nat) (v5 : Int) (S : Mem), g_X9_words_L55 v1 v2 v3 fu v5 S = some (r, S') → JW X B n 0 0 55 [(0, vR 0), (1, vI (v1)), (2, vI (v2)), (3, vI (v3)), (5, vI (v5))] [] (E S) (QM X (QcI (gX X) B n r (E S'))) := by
  intro fu
  induction fu with
  | zero =>
    intro v5 S h
    rw [g_X9_words_L55] at h
    cases h
  | succ fu ih =>
    intro v5 S h
    rw [g_X9_words_L55] at h
    refine j_iload hX 4 dX9_words_55 rfl ?_
    refine j_iload_n hX 3 dX9_words_57 rfl rfl ?_
    refine j_icmp_ge hX (tgt := 103) dX9_words_58 (by decide) (fun hc => ?_) (fun hc => ?_)
    · rw [if_pos hc] at h
      refine j_iload_n hX 3 dX9_words_103 rfl rfl ?_
      cases h
      exact j_iret hX hR dX9_words_104
    · rw [if_neg hc] at h
      refine j_iload_n hX 2 dX9_words_61 rfl rfl ?_
      refine j_aload_n hX 0 dX9_words_62 rfl rfl ?_
      refine j_getS (k := 2) hX hfl cbX9 ty0 (by decide) rfl wd406 rfl sb0_2 dX9_words_63 ?_
      refine j_iload_n hX 1 dX9_words_66 rfl rfl ?_
      obtain ⟨x2, h1, h⟩ := bs h
      refine j_callVI hX mwX7_sizeOf miX7_sizeOf wd472 cbX7 ty19 hyX7_sizeOf (by omega) (by decide) ⟨Nat.zero_le _, Nat.zero_le _⟩ dX9_words_67 (s_X7_sizeOf hfl hE h1) npX7_sizeOf rfl (Nat.le_of_ble_eq_true rfl) ?_
      refine j_iconst hX dX9_words_70 (rc rfl) ?_
      refine j_iload hX 4 dX9_words_71 rfl ?_
      refine j_iconst hX dX9_words_73 (rc rfl) ?_
      refine j_iadd hX dX9_words_74 ?_
      refine j_imul hX dX9_words_75 ?_
      refine j_isub hX dX9_words_76 ?_
      refine j_icmp_gt hX (tgt := 94) dX9_words_77 (by decide) (fun hc => ?_) (fun hc => ?_)
      · rw [if_pos hc] at h
        refine j_iload hX 4 dX9_words_94 rfl ?_
        cases h
        exact j_iret hX hR dX9_words_96
      · rw [if_neg hc] at h
        refine j_aload_n hX 0 dX9_words_80 rfl rfl ?_
        refine j_iload_n hX 1 dX9_words_81 rfl rfl ?_
        refine j_iload_n hX 2 dX9_words_82 rfl rfl ?_
        refine j_iconst hX dX9_words_83 (rc rfl) ?_
        refine j_iload hX 4 dX9_words_84 rfl ?_
        refine j_imul hX dX9_words_86 ?_
        refine j_iadd hX dX9_words_87 ?_
        obtain ⟨x4, S3, h1, h⟩ := bd2_s h
        refine j_callVI hX mwX9_wordFrom miX9_wordFrom wd476 cbX9 ty0 hyX9_wordFrom (by omega) (by decide) ⟨Nat.zero_le _, Nat.zero_le _⟩ dX9_words_88 (s_X9_wordFrom hfl hE h1) npX9_wordFrom rfl (Nat.le_of_ble_eq_true rfl) ?_
        refine j_if_ne hX (tgt := 97) dX9_words_91 (by decide) (fun hc => ?_) (fun hc => ?_)
        · rw [if_neg hc] at h
          refine j_iinc (L' := [(5, vI (w32 (v5 + 1))), (0, vR 0), (1, vI (v1)), (2, vI (v2)), (3, vI (v3))]) hX 4 dX9_words_97 hnl (by decide) rfl rfl ?_
          refine j_goto hX (tgt := 55) dX9_words_100 (by decide) ?_
          refine j_sub [1, 2, 3, 4, 0] rfl ?_
          exact ih _ _ h
        · rw [if_pos hc] at h
          refine j_iload hX 4 dX9_words_94 rfl ?_
          cases h
          exact j_iret hX hR dX9_words_96
theorem s_X9_words {g : G0} {B : Nat → Nat} {n : Nat} {E : Mem → Mem} {a1 : Int} {a2 : Int} {a3 : Int} {S : Mem} {r : Int} {S' : Mem} (hfl : g.2.2.2.2 = true) (hE : Lens E PC) (h : g_X9_words a1 a2 a3 S = some (r, S')) : Cn g B n yX9_words cX9_words 6 (some .int) 5 [vR 0, vI (a1), vI (a2), vI (a3)] (E S) (QcI g B n r (E S')) := by
  refine Cn.of (by decide +kernel) (Nat.le_of_ble_eq_true rfl) (fun X hg hnl hX hR => ?_)
  subst hg
  have hX : Ctx X cX9_words "TelegramFeelings" 5 := hX
  unfold g_X9_words at h
  show JW X B n 0 0 0 [(0, vR 0), (1, vI (a1)), (2, vI (a2)), (3, vI (a3))] [] (E S) (QM X (QcI (gX X) B n r (E S')))
  refine j_iload_n hX 3 dX9_words_0 rfl rfl ?_
  refine j_iconst hX dX9_words_1 (rc rfl) ?_
  refine j_bipush hX dX9_words_2 (rc rfl) (by decide) ?_
  refine j_callSI hX mwX9_between msX9_between wd463 hyX9_between (by omega) (by decide) ⟨Nat.zero_le _, Nat.zero_le _⟩ dX9_words_4 (s_X9_between hfl rfl) npX9_between rfl (Nat.le_of_ble_eq_true rfl) ?_
  refine j_if_ne hX (tgt := 12) dX9_words_7 (by decide) (fun hc => ?_) (fun hc => ?_)
  · rw [if_neg hc] at h
    refine j_aload_n hX 0 dX9_words_12 rfl rfl ?_
    refine j_getS (k := 2) hX hfl cbX9 ty0 (by decide) rfl wd406 rfl sb0_2 dX9_words_13 ?_
    refine j_iload_n hX 1 dX9_words_16 rfl rfl ?_
    refine j_iconst hX dX9_words_17 (rc rfl) ?_
    obtain ⟨x1, h1, h⟩ := bs h
    refine j_callVI hX mwX7_refusal miX7_refusal wd464 cbX7 ty19 hyX7_refusal (by omega) (by decide) ⟨Nat.zero_le _, Nat.zero_le _⟩ dX9_words_18 (s_X7_refusal hfl hE h1) npX7_refusal rfl (Nat.le_of_ble_eq_true rfl) ?_
    refine j_istore (L' := [(4, vI (x1)), (0, vR 0), (1, vI (a1)), (2, vI (a2)), (3, vI (a3))]) hX dX9_words_21 hnl (by decide) rfl ?_
    refine j_iload hX 0 dX9_words_23 rfl ?_
    refine j_iconst hX dX9_words_25 (rc rfl) ?_
    refine j_icmp_eq hX (tgt := 36) dX9_words_26 (by decide) (fun hc => ?_) (fun hc => ?_)
    · rw [if_pos hc] at h
      refine j_iload hX 0 dX9_words_36 rfl ?_
      cases h
      exact j_iret hX hR dX9_words_38
    · rw [if_neg hc] at h
      refine j_iload hX 0 dX9_words_29 rfl ?_
      refine j_bipush hX dX9_words_31 (rc rfl) (by decide) ?_
      refine j_icmp_ne hX (tgt := 39) dX9_words_33 (by decide) (fun hc => ?_) (fun hc => ?_)
      · rw [if_neg hc] at h
        refine j_iload hX 0 dX9_words_39 rfl ?_
        refine j_bipush hX dX9_words_41 (rc rfl) (by decide) ?_
        refine j_icmp_eq hX (tgt := 50) dX9_words_43 (by decide) (fun hc => ?_) (fun hc => ?_)
        · rw [if_pos hc] at h
          refine j_iconst hX dX9_words_50 (rc rfl) ?_
          cases h
          exact j_iret hX hR dX9_words_51
        · rw [if_neg hc] at h
          refine j_iload_n hX 3 dX9_words_46 rfl rfl ?_
          refine j_if_ge hX (tgt := 52) dX9_words_47 (by decide) (fun hc => ?_) (fun hc => ?_)
          · rw [if_pos hc] at h
            refine j_iconst hX dX9_words_52 (rc rfl) ?_
            refine j_istore (L' := [(5, vI (0)), (4, vI (x1)), (0, vR 0), (1, vI (a1)), (2, vI (a2)), (3, vI (a3))]) hX dX9_words_53 hnl (by decide) rfl ?_
            refine j_sub [2, 3, 4, 5, 0] rfl ?_
            refine sl_X9_words_55 hX hR hfl hnl hE  _ _ _ h
          · rw [if_neg hc] at h
            refine j_iconst hX dX9_words_50 (rc rfl) ?_
            cases h
            exact j_iret hX hR dX9_words_51
      · rw [if_pos hc] at h
        refine j_iload hX 0 dX9_words_36 rfl ?_
        cases h
        exact j_iret hX hR dX9_words_38
  · rw [if_pos hc] at h
    refine j_iconst hX dX9_words_10 (rc rfl) ?_
    cases h
    exact j_iret hX hR dX9_words_11
theorem s_X9_person {g : G0} {B : Nat → Nat} {n : Nat} {E : Mem → Mem} {a1 : Int} {S : Mem} {r : Int} {S' : Mem} (hfl : g.2.2.2.2 = true) (hE : Lens E PC) (h : g_X9_person a1 S = some (r, S')) : Cn g B n yX9_person cX9_person 2 (some .int) 4 [vR 0, vI (a1)] (E S) (QcI g B n r (E S')) := by
  refine Cn.of (by decide +kernel) (Nat.le_of_ble_eq_true rfl) (fun X hg hnl hX hR => ?_)
  subst hg
  have hX : Ctx X cX9_person "TelegramFeelings" 4 := hX
  unfold g_X9_person at h
  show JW X B n 0 0 0 [(0, vR 0), (1, vI (a1))] [] (E S) (QM X (QcI (gX X) B n r (E S')))
  refine j_aload_n hX 0 dX9_person_0 rfl rfl ?_
  refine j_getS (k := 0) hX hfl cbX9 ty0 (by decide) rfl wd404 rfl sb0_0 dX9_person_1 ?_
  refine j_iconst hX dX9_person_4 (rc rfl) ?_
  refine j_iload_n hX 1 dX9_person_5 rfl rfl ?_
  obtain ⟨x1, h1, h⟩ := bs h
  refine j_callVI hX mwX5_fits miX5_fits wd436 cbX5 ty1 hyX5_fits (by omega) (by decide) ⟨Nat.zero_le _, Nat.zero_le _⟩ dX9_person_6 (s_X5_fits hfl hE h1) npX5_fits rfl (Nat.le_of_ble_eq_true rfl) ?_
  refine j_if_eq hX (tgt := 23) dX9_person_9 (by decide) (fun hc => ?_) (fun hc => ?_)
  · rw [if_pos hc] at h
    refine j_iconst hX dX9_person_23 (rc rfl) ?_
    cases h
    exact j_iret hX hR dX9_person_24
  · rw [if_neg hc] at h
    refine j_aload_n hX 0 dX9_person_12 rfl rfl ?_
    refine j_getS (k := 0) hX hfl cbX9 ty0 (by decide) rfl wd404 rfl sb0_0 dX9_person_13 ?_
    refine j_iload_n hX 1 dX9_person_16 rfl rfl ?_
    obtain ⟨x3, S2, h1, h⟩ := bd2_s h
    refine j_callVI hX mwX5_addPerson miX5_addPerson wd488 cbX5 ty1 hyX5_addPerson (by omega) (by decide) ⟨Nat.zero_le _, Nat.zero_le _⟩ dX9_person_17 (s_X5_addPerson hfl hE h1) npX5_addPerson rfl (Nat.le_of_ble_eq_true rfl) ?_
    refine j_goto hX (tgt := 24) dX9_person_20 (by decide) ?_
    cases h
    exact j_iret hX hR dX9_person_24
theorem s_X9_mend {g : G0} {B : Nat → Nat} {n : Nat} {E : Mem → Mem} {a1 : Int} {a2 : Int} {a3 : Int} {S : Mem} {r : Int} {S' : Mem} (hfl : g.2.2.2.2 = true) (hE : Lens E PC) (h : g_X9_mend a1 a2 a3 S = some (r, S')) : Cn g B n yX9_mend cX9_mend 5 (some .int) 3 [vR 0, vI (a1), vI (a2), vI (a3)] (E S) (QcI g B n r (E S')) := by
  refine Cn.of (by decide +kernel) (Nat.le_of_ble_eq_true rfl) (fun X hg hnl hX hR => ?_)
  subst hg
  have hX : Ctx X cX9_mend "TelegramFeelings" 3 := hX
  unfold g_X9_mend at h
  show JW X B n 0 0 0 [(0, vR 0), (1, vI (a1)), (2, vI (a2)), (3, vI (a3))] [] (E S) (QM X (QcI (gX X) B n r (E S')))
  refine j_aload_n hX 0 dX9_mend_0 rfl rfl ?_
  refine j_getS (k := 0) hX hfl cbX9 ty0 (by decide) rfl wd404 rfl sb0_0 dX9_mend_1 ?_
  refine j_iload_n hX 1 dX9_mend_4 rfl rfl ?_
  refine j_iload_n hX 2 dX9_mend_5 rfl rfl ?_
  refine j_callVI hX mwX5_has miX5_has wd496 cbX5 ty1 hyX5_has (by omega) (by decide) ⟨Nat.zero_le _, Nat.zero_le _⟩ dX9_mend_6 (s_X5_has hfl hE rfl) npX5_has rfl (Nat.le_of_ble_eq_true rfl) ?_
  refine j_if_eq hX (tgt := 24) dX9_mend_9 (by decide) (fun hc => ?_) (fun hc => ?_)
  · rw [if_pos hc] at h
    refine j_iconst hX dX9_mend_24 (rc rfl) ?_
    cases h
    exact j_iret hX hR dX9_mend_25
  · rw [if_neg hc] at h
    refine j_aload_n hX 0 dX9_mend_12 rfl rfl ?_
    refine j_getS (k := 0) hX hfl cbX9 ty0 (by decide) rfl wd404 rfl sb0_0 dX9_mend_13 ?_
    refine j_iload_n hX 2 dX9_mend_16 rfl rfl ?_
    refine j_iload_n hX 3 dX9_mend_17 rfl rfl ?_
    obtain ⟨x1, h1, h⟩ := bs h
    refine j_callVI hX mwX5_fits miX5_fits wd436 cbX5 ty1 hyX5_fits (by omega) (by decide) ⟨Nat.zero_le _, Nat.zero_le _⟩ dX9_mend_18 (s_X5_fits hfl hE h1) npX5_fits rfl (Nat.le_of_ble_eq_true rfl) ?_
    refine j_if_ne hX (tgt := 26) dX9_mend_21 (by decide) (fun hc => ?_) (fun hc => ?_)
    · rw [if_neg hc] at h
      refine j_aload_n hX 0 dX9_mend_26 rfl rfl ?_
      refine j_getS (k := 0) hX hfl cbX9 ty0 (by decide) rfl wd404 rfl sb0_0 dX9_mend_27 ?_
      refine j_iload_n hX 1 dX9_mend_30 rfl rfl ?_
      refine j_iload_n hX 2 dX9_mend_31 rfl rfl ?_
      obtain ⟨x2, h1, h⟩ := bs h
      refine j_callVI hX mwX5_value miX5_value wd497 cbX5 ty1 hyX5_value (by omega) (by decide) ⟨Nat.zero_le _, Nat.zero_le _⟩ dX9_mend_32 (s_X5_value hfl hE h1) npX5_value rfl (Nat.le_of_ble_eq_true rfl) ?_
      refine j_istore (L' := [(4, vI (x2)), (0, vR 0), (1, vI (a1)), (2, vI (a2)), (3, vI (a3))]) hX dX9_mend_35 hnl (by decide) rfl ?_
      refine j_iload hX 0 dX9_mend_37 rfl ?_
      refine j_iload_n hX 4 dX9_mend_39 rfl rfl ?_
      refine j_icmp_eq hX (tgt := 65) dX9_mend_40 (by decide) (fun hc => ?_) (fun hc => ?_)
      · rw [if_pos hc] at h
        refine j_iload hX 0 dX9_mend_65 rfl ?_
        cases h
        exact j_iret hX hR dX9_mend_67
      · rw [if_neg hc] at h
        refine j_aload_n hX 1 dX9_mend_43 rfl rfl ?_
        refine j_getS (k := 0) hX hfl cbX9 ty0 (by decide) rfl wd404 rfl sb0_0 dX9_mend_44 ?_
        refine j_iload_n hX 2 dX9_mend_47 rfl rfl ?_
        refine j_iload_n hX 3 dX9_mend_48 rfl rfl ?_
        refine j_iload_n hX 4 dX9_mend_49 rfl rfl ?_
        obtain ⟨S3, h1, h⟩ := bs h
        refine j_callVV hX mwX5_set miX5_set wd501 cbX5 ty1 hyX5_set (by omega) (by decide) ⟨Nat.zero_le _, Nat.zero_le _⟩ dX9_mend_50 (s_X5_set hfl hE h1) npX5_set rfl (Nat.le_of_ble_eq_true rfl) ?_
        refine j_aload_n hX 1 dX9_mend_53 rfl rfl ?_
        refine j_getS (k := 7) hX hfl cbX9 ty0 (by decide) rfl wd411 rfl sb0_7 dX9_mend_54 ?_
        refine j_iload_n hX 2 dX9_mend_57 rfl rfl ?_
        refine j_iload_n hX 3 dX9_mend_58 rfl rfl ?_
        refine j_iload hX 0 dX9_mend_59 rfl ?_
        refine j_iload_n hX 4 dX9_mend_61 rfl rfl ?_
        obtain ⟨S4, h1, h⟩ := bs h
        refine j_callVV hX mwX1_note miX1_note wd502 cbX1 ty48 hyX1_note (by omega) (by decide) ⟨Nat.zero_le _, Nat.zero_le _⟩ dX9_mend_62 (s_X1_note hfl hE h1) npX1_note rfl (Nat.le_of_ble_eq_true rfl) ?_
        refine j_iload hX 0 dX9_mend_65 rfl ?_
        cases h
        exact j_iret hX hR dX9_mend_67
    · rw [if_pos hc] at h
      refine j_iconst hX dX9_mend_24 (rc rfl) ?_
      cases h
      exact j_iret hX hR dX9_mend_25
theorem s_X9_of {g : G0} {B : Nat → Nat} {n : Nat} {E : Mem → Mem} {a1 : Int} {a2 : Int} {S : Mem} {r : Int} (hfl : g.2.2.2.2 = true) (hE : Lens E PC) (h : g_X9_of a1 a2 S = some r) : Cn g B n yX9_of cX9_of 3 (some .int) 3 [vR 0, vI (a1), vI (a2)] (E S) (QcI g B n r (E S)) := by
  refine Cn.of (by decide +kernel) (Nat.le_of_ble_eq_true rfl) (fun X hg hnl hX hR => ?_)
  subst hg
  have hX : Ctx X cX9_of "TelegramFeelings" 3 := hX
  unfold g_X9_of at h
  show JW X B n 0 0 0 [(0, vR 0), (1, vI (a1)), (2, vI (a2))] [] (E S) (QM X (QcI (gX X) B n r (E S)))
  refine j_aload_n hX 0 dX9_of_0 rfl rfl ?_
  refine j_getS (k := 0) hX hfl cbX9 ty0 (by decide) rfl wd404 rfl sb0_0 dX9_of_1 ?_
  refine j_iload_n hX 1 dX9_of_4 rfl rfl ?_
  refine j_iload_n hX 2 dX9_of_5 rfl rfl ?_
  refine j_callVI hX mwX5_has miX5_has wd496 cbX5 ty1 hyX5_has (by omega) (by decide) ⟨Nat.zero_le _, Nat.zero_le _⟩ dX9_of_6 (s_X5_has hfl hE rfl) npX5_has rfl (Nat.le_of_ble_eq_true rfl) ?_
  refine j_if_eq hX (tgt := 24) dX9_of_9 (by decide) (fun hc => ?_) (fun hc => ?_)
  · rw [if_pos hc] at h
    refine j_iconst hX dX9_of_24 (rc rfl) ?_
    cases h
    exact j_iret hX hR dX9_of_25
  · rw [if_neg hc] at h
    refine j_aload_n hX 0 dX9_of_12 rfl rfl ?_
    refine j_getS (k := 0) hX hfl cbX9 ty0 (by decide) rfl wd404 rfl sb0_0 dX9_of_13 ?_
    refine j_iload_n hX 1 dX9_of_16 rfl rfl ?_
    refine j_iload_n hX 2 dX9_of_17 rfl rfl ?_
    obtain ⟨x1, h1, h⟩ := bs h
    refine j_callVI hX mwX5_value miX5_value wd497 cbX5 ty1 hyX5_value (by omega) (by decide) ⟨Nat.zero_le _, Nat.zero_le _⟩ dX9_of_18 (s_X5_value hfl hE h1) npX5_value rfl (Nat.le_of_ble_eq_true rfl) ?_
    refine j_goto hX (tgt := 25) dX9_of_21 (by decide) ?_
    cases h
    exact j_iret hX hR dX9_of_25
theorem s_X9_feed {g : G0} {B : Nat → Nat} {n : Nat} {E : Mem → Mem} {a1 : Int} {S : Mem} {r : Int} {S' : Mem} (hfl : g.2.2.2.2 = true) (hE : Lens E PC) (h : g_X9_feed a1 S = some (r, S')) : Cn g B n yX9_feed cX9_feed 2 (some .int) 2 [vR 0, vI (a1)] (E S) (QcI g B n r (E S')) := by
  refine Cn.of (by decide +kernel) (Nat.le_of_ble_eq_true rfl) (fun X hg hnl hX hR => ?_)
  subst hg
  have hX : Ctx X cX9_feed "TelegramFeelings" 2 := hX
  unfold g_X9_feed at h
  show JW X B n 0 0 0 [(0, vR 0), (1, vI (a1))] [] (E S) (QM X (QcI (gX X) B n r (E S')))
  refine j_iload_n hX 1 dX9_feed_0 rfl rfl ?_
  refine j_iconst hX dX9_feed_1 (rc rfl) ?_
  refine j_sipush hX dX9_feed_2 (rc rfl) (by decide) ?_
  refine j_callSI hX mwX9_between msX9_between wd463 hyX9_between (by omega) (by decide) ⟨Nat.zero_le _, Nat.zero_le _⟩ dX9_feed_5 (s_X9_between hfl rfl) npX9_between rfl (Nat.le_of_ble_eq_true rfl) ?_
  refine j_if_eq hX (tgt := 22) dX9_feed_8 (by decide) (fun hc => ?_) (fun hc => ?_)
  · rw [if_pos hc] at h
    refine j_iconst hX dX9_feed_22 (rc rfl) ?_
    cases h
    exact j_iret hX hR dX9_feed_23
  · rw [if_neg hc] at h
    refine j_aload_n hX 0 dX9_feed_11 rfl rfl ?_
    refine j_getS (k := 1) hX hfl cbX9 ty0 (by decide) rfl wd405 rfl sb0_1 dX9_feed_12 ?_
    refine j_iload_n hX 1 dX9_feed_15 rfl rfl ?_
    obtain ⟨x2, S1, h1, h⟩ := bd2_s h
    refine j_callVI hX mwX4_feedOne miX4_feedOne wd521 cbX4 ty13 hyX4_feedOne (by omega) (by decide) ⟨Nat.zero_le _, Nat.zero_le _⟩ dX9_feed_16 (s_X4_feedOne hfl hE h1) npX4_feedOne rfl (Nat.le_of_ble_eq_true rfl) ?_
    refine j_goto hX (tgt := 23) dX9_feed_19 (by decide) ?_
    cases h
    exact j_iret hX hR dX9_feed_23
theorem s_X9_law {g : G0} {B : Nat → Nat} {n : Nat} {E : Mem → Mem}  {S : Mem} {r : Int} {S' : Mem} (hfl : g.2.2.2.2 = true) (hE : Lens E PC) (h : g_X9_law S = some (r, S')) : Cn g B n yX9_law cX9_law 1 (some .int) 69 [vR 0] (E S) (QcI g B n r (E S')) := by
  refine Cn.of (by decide +kernel) (Nat.le_of_ble_eq_true rfl) (fun X hg hnl hX hR => ?_)
  subst hg
  have hX : Ctx X cX9_law "TelegramFeelings" 69 := hX
  unfold g_X9_law at h
  show JW X B n 0 0 0 [(0, vR 0)] [] (E S) (QM X (QcI (gX X) B n r (E S')))
  refine j_aload_n hX 0 dX9_law_0 rfl rfl ?_
  refine j_getS (k := 1) hX hfl cbX9 ty0 (by decide) rfl wd405 rfl sb0_1 dX9_law_1 ?_
  obtain ⟨x2, S1, h1, h⟩ := bd2_s h
  refine j_callVI hX mwX4_adopt miX4_adopt wd529 cbX4 ty13 hyX4_adopt (by omega) (by decide) ⟨Nat.zero_le _, Nat.zero_le _⟩ dX9_law_4 (s_X4_adopt hfl hE h1) npX4_adopt rfl (Nat.le_of_ble_eq_true rfl) ?_
  cases h
  exact j_iret hX hR dX9_law_7
theorem s_X9_price {g : G0} {B : Nat → Nat} {n : Nat} {E : Mem → Mem} {a1 : Int} {a2 : Int} {S : Mem} {r : Int} {S' : Mem} (hfl : g.2.2.2.2 = true) (hE : Lens E PC) (h : g_X9_price a1 a2 S = some (r, S')) : Cn g B n yX9_price cX9_price 5 (some .int) 4 [vR 0, vI (a1), vI (a2)] (E S) (QcI g B n r (E S')) := by
  refine Cn.of (by decide +kernel) (Nat.le_of_ble_eq_true rfl) (fun X hg hnl hX hR => ?_)
  subst hg
  have hX : Ctx X cX9_price "TelegramFeelings" 4 := hX
  unfold g_X9_price at h
  show JW X B n 0 0 0 [(0, vR 0), (1, vI (a1)), (2, vI (a2))] [] (E S) (QM X (QcI (gX X) B n r (E S')))
  refine j_iload_n hX 2 dX9_price_0 rfl rfl ?_
  refine j_bipush hX dX9_price_1 (rc rfl) (by decide) ?_
  refine j_idiv hX dX9_price_3 (by decide) ?_
  refine j_istore_n (L' := [(3, vI (w32 (Int.tdiv a2 100))), (0, vR 0), (1, vI (a1)), (2, vI (a2))]) hX dX9_price_4 rfl hnl (by decide) rfl ?_
  refine j_iload_n hX 3 dX9_price_5 rfl rfl ?_
  refine j_bipush hX dX9_price_6 (rc rfl) (by decide) ?_
  refine j_irem hX dX9_price_8 (by decide) ?_
  refine j_istore (L' := [(4, vI (Int.tmod a2 100)), (3, vI (w32 (Int.tdiv a2 100))), (0, vR 0), (1, vI (a1)), (2, vI (a2))]) hX dX9_price_9 hnl (by decide) rfl ?_
  refine j_aload_n hX 2 dX9_price_11 rfl rfl ?_
  refine j_getS (k := 0) hX hfl cbX9 ty0 (by decide) rfl wd404 rfl sb0_0 dX9_price_12 ?_
  refine j_iload_n hX 3 dX9_price_15 rfl rfl ?_
  refine j_iconst hX dX9_price_16 (rc rfl) ?_
  refine j_callVI hX mwX5_has miX5_has wd496 cbX5 ty1 hyX5_has (by omega) (by decide) ⟨Nat.zero_le _, Nat.zero_le _⟩ dX9_price_17 (s_X5_has hfl hE rfl) npX5_has rfl (Nat.le_of_ble_eq_true rfl) ?_
  refine j_if_eq hX (tgt := 43) dX9_price_20 (by decide) (fun hc => ?_) (fun hc => ?_)
  · rw [if_pos hc] at h
    refine j_iconst hX dX9_price_43 (rc rfl) ?_
    cases h
    exact j_iret hX hR dX9_price_44
  · rw [if_neg hc] at h
    refine j_iload_n hX 1 dX9_price_23 rfl rfl ?_
    refine j_iconst hX dX9_price_24 (rc rfl) ?_
    refine j_iconst hX dX9_price_25 (rc rfl) ?_
    refine j_callSI hX mwX9_between msX9_between wd463 hyX9_between (by omega) (by decide) ⟨Nat.zero_le _, Nat.zero_le _⟩ dX9_price_26 (s_X9_between hfl rfl) npX9_between rfl (Nat.le_of_ble_eq_true rfl) ?_
    refine j_if_eq hX (tgt := 43) dX9_price_29 (by decide) (fun hc => ?_) (fun hc => ?_)
    · rw [if_pos hc] at h
      refine j_iconst hX dX9_price_43 (rc rfl) ?_
      cases h
      exact j_iret hX hR dX9_price_44
    · rw [if_neg hc] at h
      refine j_iload hX 0 dX9_price_32 rfl ?_
      refine j_iconst hX dX9_price_34 (rc rfl) ?_
      refine j_bipush hX dX9_price_35 (rc rfl) (by decide) ?_
      refine j_callSI hX mwX9_between msX9_between wd463 hyX9_between (by omega) (by decide) ⟨Nat.zero_le _, Nat.zero_le _⟩ dX9_price_37 (s_X9_between hfl rfl) npX9_between rfl (Nat.le_of_ble_eq_true rfl) ?_
      refine j_if_ne hX (tgt := 45) dX9_price_40 (by decide) (fun hc => ?_) (fun hc => ?_)
      · rw [if_neg hc] at h
        refine j_aload_n hX 2 dX9_price_45 rfl rfl ?_
        refine j_getS (k := 1) hX hfl cbX9 ty0 (by decide) rfl wd405 rfl sb0_1 dX9_price_46 ?_
        refine j_iload_n hX 3 dX9_price_49 rfl rfl ?_
        refine j_iload_n hX 1 dX9_price_50 rfl rfl ?_
        refine j_iload hX 0 dX9_price_51 rfl ?_
        obtain ⟨x2, S1, h1, h⟩ := bd2_s h
        refine j_callVI hX mwX4_priceOf miX4_priceOf wd665 cbX4 ty13 hyX4_priceOf (by omega) (by decide) ⟨Nat.zero_le _, Nat.zero_le _⟩ dX9_price_53 (s_X4_priceOf hfl hE h1) npX4_priceOf rfl (Nat.le_of_ble_eq_true rfl) ?_
        cases h
        exact j_iret hX hR dX9_price_56
      · rw [if_pos hc] at h
        refine j_iconst hX dX9_price_43 (rc rfl) ?_
        cases h
        exact j_iret hX hR dX9_price_44
theorem s_X9_opened {g : G0} {B : Nat → Nat} {n : Nat} {E : Mem → Mem} {a1 : Int} {S : Mem} {r : Int} {S' : Mem} (hfl : g.2.2.2.2 = true) (hE : Lens E PC) (h : g_X9_opened a1 S = some (r, S')) : Cn g B n yX9_opened cX9_opened 3 (some .int) 4 [vR 0, vI (a1)] (E S) (QcI g B n r (E S')) := by
  refine Cn.of (by decide +kernel) (Nat.le_of_ble_eq_true rfl) (fun X hg hnl hX hR => ?_)
  subst hg
  have hX : Ctx X cX9_opened "TelegramFeelings" 4 := hX
  unfold g_X9_opened at h
  show JW X B n 0 0 0 [(0, vR 0), (1, vI (a1))] [] (E S) (QM X (QcI (gX X) B n r (E S')))
  refine j_aload_n hX 0 dX9_opened_0 rfl rfl ?_
  refine j_getS (k := 2) hX hfl cbX9 ty0 (by decide) rfl wd406 rfl sb0_2 dX9_opened_1 ?_
  refine j_iload_n hX 1 dX9_opened_4 rfl rfl ?_
  refine j_iconst hX dX9_opened_5 (rc rfl) ?_
  obtain ⟨x1, h1, h⟩ := bs h
  refine j_callVI hX mwX7_refusal miX7_refusal wd464 cbX7 ty19 hyX7_refusal (by omega) (by decide) ⟨Nat.zero_le _, Nat.zero_le _⟩ dX9_opened_6 (s_X7_refusal hfl hE h1) npX7_refusal rfl (Nat.le_of_ble_eq_true rfl) ?_
  refine j_istore_n (L' := [(2, vI (x1)), (0, vR 0), (1, vI (a1))]) hX dX9_opened_9 rfl hnl (by decide) rfl ?_
  refine j_iload_n hX 0 dX9_opened_10 rfl rfl ?_
  refine j_if_ne hX (tgt := 26) dX9_opened_11 (by decide) (fun hc => ?_) (fun hc => ?_)
  · rw [if_neg hc] at h
    refine j_iload_n hX 0 dX9_opened_26 rfl rfl ?_
    cases h
    exact j_iret hX hR dX9_opened_27
  · rw [if_pos hc] at h
    refine j_aload_n hX 1 dX9_opened_14 rfl rfl ?_
    refine j_getS (k := 3) hX hfl cbX9 ty0 (by decide) rfl wd407 rfl sb0_3 dX9_opened_15 ?_
    refine j_aload_n hX 1 dX9_opened_18 rfl rfl ?_
    refine j_getS (k := 2) hX hfl cbX9 ty0 (by decide) rfl wd406 rfl sb0_2 dX9_opened_19 ?_
    refine j_iload_n hX 2 dX9_opened_22 rfl rfl ?_
    obtain ⟨S2, h1, h⟩ := bs h
    refine j_callVV hX mwX8_read miX8_read wd695 cbX8 ty30 hyX8_read (by omega) (by decide) ⟨Nat.zero_le _, Nat.zero_le _⟩ dX9_opened_23 (s_X8_read hfl hE h1) npX8_read rfl (Nat.le_of_ble_eq_true rfl) ?_
    refine j_iload_n hX 0 dX9_opened_26 rfl rfl ?_
    cases h
    exact j_iret hX hR dX9_opened_27
theorem sj_X9_wire_18 {X : K0} {B : Nat → Nat} {n : Nat} {E : Mem → Mem} {r : Int} {S' : Mem} (hX : Ctx X cX9_wire "TelegramFeelings" 7) (hR : CR X (some .int)) (hfl : (gX X).2.2.2.2 = true) (hnl : X.2.2.2.2.2.2.2.2.2.2.2.2.2.2 = 4) (hE : Lens E PC)   {v2 : Int} {s0 : Int} {S : Mem} (h : g_X9_wire_J18 v2 s0 S = some (r, S')) : JW X B n 0 0 18 [(0, vR 0), (2, vI (v2))] [vI (s0)] (E S) (QM X (QcI (gX X) B n r (E S'))) := by
  unfold g_X9_wire_J18 at h
  refine j_istore_n (L' := [(3, vI (s0)), (0, vR 0), (2, vI (v2))]) hX dX9_wire_18 rfl hnl (by decide) rfl ?_
  refine j_iload_n hX 0 dX9_wire_19 rfl rfl ?_
  refine j_if_eq hX (tgt := 25) dX9_wire_20 (by decide) (fun hc => ?_) (fun hc => ?_)
  · rw [if_pos hc] at h
    refine j_iload_n hX 2 dX9_wire_25 rfl rfl ?_
    by_cases hc0 : v2 = 0
    · rw [if_pos hc0] at h
      refine j_tin hX (tgt := 60) dX9_wire_26 hc0 (by decide) (by decide) rfl (by decide) ?_
      refine j_aload_n hX 1 dX9_wire_60 rfl rfl ?_
      refine j_getS (k := 3) hX hfl cbX9 ty0 (by decide) rfl wd407 rfl sb0_3 dX9_wire_61 ?_
      obtain ⟨x2, S1, h1, h⟩ := bd2_s h
      refine j_callVI hX mwX8_costs miX8_costs wd703 cbX8 ty30 hyX8_costs (by omega) (by decide) ⟨Nat.zero_le _, Nat.zero_le _⟩ dX9_wire_64 (s_X8_costs hfl hE h1) npX8_costs rfl (Nat.le_of_ble_eq_true rfl) ?_
      cases h
      exact j_iret hX hR dX9_wire_67
    · rw [if_neg hc0] at h
      by_cases hc1 : v2 = 1
      · rw [if_pos hc1] at h
        refine j_tin hX (tgt := 68) dX9_wire_26 hc1 (by decide) (by decide) rfl (by decide) ?_
        refine j_aload_n hX 1 dX9_wire_68 rfl rfl ?_
        refine j_getS (k := 3) hX hfl cbX9 ty0 (by decide) rfl wd407 rfl sb0_3 dX9_wire_69 ?_
        obtain ⟨x3, h1, h⟩ := bs h
        refine j_callVI hX mwX8_senseOf miX8_senseOf wd709 cbX8 ty30 hyX8_senseOf (by omega) (by decide) ⟨Nat.zero_le _, Nat.zero_le _⟩ dX9_wire_72 (s_X8_senseOf hfl hE h1) npX8_senseOf rfl (Nat.le_of_ble_eq_true rfl) ?_
        cases h
        exact j_iret hX hR dX9_wire_75
      · rw [if_neg hc1] at h
        by_cases hc2 : v2 = 2
        · rw [if_pos hc2] at h
          refine j_tin hX (tgt := 76) dX9_wire_26 hc2 (by decide) (by decide) rfl (by decide) ?_
          refine j_aload_n hX 1 dX9_wire_76 rfl rfl ?_
          refine j_getS (k := 3) hX hfl cbX9 ty0 (by decide) rfl wd407 rfl sb0_3 dX9_wire_77 ?_
          obtain ⟨x4, h1, h⟩ := bs h
          refine j_callVI hX mwX8_isRight miX8_isRight wd717 cbX8 ty30 hyX8_isRight (by omega) (by decide) ⟨Nat.zero_le _, Nat.zero_le _⟩ dX9_wire_80 (s_X8_isRight hfl hE h1) npX8_isRight rfl (Nat.le_of_ble_eq_true rfl) ?_
          refine j_if_eq hX (tgt := 90) dX9_wire_83 (by decide) (fun hc => ?_) (fun hc => ?_)
          · rw [if_pos hc] at h
            refine j_iconst hX dX9_wire_90 (rc rfl) ?_
            cases h
            exact j_iret hX hR dX9_wire_91
          · rw [if_neg hc] at h
            refine j_iconst hX dX9_wire_86 (rc rfl) ?_
            refine j_goto hX (tgt := 91) dX9_wire_87 (by decide) ?_
            cases h
            exact j_iret hX hR dX9_wire_91
        · rw [if_neg hc2] at h
          by_cases hc3 : v2 = 3
          · rw [if_pos hc3] at h
            refine j_tin hX (tgt := 92) dX9_wire_26 hc3 (by decide) (by decide) rfl (by decide) ?_
            refine j_aload_n hX 1 dX9_wire_92 rfl rfl ?_
            refine j_getS (k := 3) hX hfl cbX9 ty0 (by decide) rfl wd407 rfl sb0_3 dX9_wire_93 ?_
            refine j_getI (k := 5) hX hE cbX8 ty30 pc30 (by decide) rfl wd252 rfl dX9_wire_96 ?_
            cases h
            exact j_iret hX hR dX9_wire_99
          · rw [if_neg hc3] at h
            by_cases hc4 : v2 = 4
            · rw [if_pos hc4] at h
              refine j_tin hX (tgt := 100) dX9_wire_26 hc4 (by decide) (by decide) rfl (by decide) ?_
              refine j_aload_n hX 1 dX9_wire_100 rfl rfl ?_
              refine j_getS (k := 3) hX hfl cbX9 ty0 (by decide) rfl wd407 rfl sb0_3 dX9_wire_101 ?_
              obtain ⟨x6, S5, h1, h⟩ := bd2_s h
              refine j_callVI hX mwX8_joinedPrice miX8_joinedPrice wd727 cbX8 ty30 hyX8_joinedPrice (by omega) (by decide) ⟨Nat.zero_le _, Nat.zero_le _⟩ dX9_wire_104 (s_X8_joinedPrice hfl hE h1) npX8_joinedPrice rfl (Nat.le_of_ble_eq_true rfl) ?_
              cases h
              exact j_iret hX hR dX9_wire_107
            · rw [if_neg hc4] at h
              refine j_tout hX (tgt := 108) dX9_wire_26 (by omega) (by decide) ?_
              refine j_aload_n hX 1 dX9_wire_108 rfl rfl ?_
              refine j_getS (k := 3) hX hfl cbX9 ty0 (by decide) rfl wd407 rfl sb0_3 dX9_wire_109 ?_
              obtain ⟨x8, S7, h1, h⟩ := bd2_s h
              refine j_callVI hX mwX8_joinedRuns miX8_joinedRuns wd738 cbX8 ty30 hyX8_joinedRuns (by omega) (by decide) ⟨Nat.zero_le _, Nat.zero_le _⟩ dX9_wire_112 (s_X8_joinedRuns hfl hE h1) npX8_joinedRuns rfl (Nat.le_of_ble_eq_true rfl) ?_
              cases h
              exact j_iret hX hR dX9_wire_115
  · rw [if_neg hc] at h
    refine j_iload_n hX 0 dX9_wire_23 rfl rfl ?_
    cases h
    exact j_iret hX hR dX9_wire_24
theorem s_X9_wire {g : G0} {B : Nat → Nat} {n : Nat} {E : Mem → Mem} {a1 : Int} {a2 : Int} {S : Mem} {r : Int} {S' : Mem} (hfl : g.2.2.2.2 = true) (hE : Lens E PC) (h : g_X9_wire a1 a2 S = some (r, S')) : Cn g B n yX9_wire cX9_wire 4 (some .int) 7 [vR 0, vI (a1), vI (a2)] (E S) (QcI g B n r (E S')) := by
  refine Cn.of (by decide +kernel) (Nat.le_of_ble_eq_true rfl) (fun X hg hnl hX hR => ?_)
  subst hg
  have hX : Ctx X cX9_wire "TelegramFeelings" 7 := hX
  unfold g_X9_wire at h
  show JW X B n 0 0 0 [(0, vR 0), (1, vI (a1)), (2, vI (a2))] [] (E S) (QM X (QcI (gX X) B n r (E S')))
  refine j_iload_n hX 2 dX9_wire_0 rfl rfl ?_
  refine j_iconst hX dX9_wire_1 (rc rfl) ?_
  refine j_iconst hX dX9_wire_2 (rc rfl) ?_
  refine j_callSI hX mwX9_between msX9_between wd463 hyX9_between (by omega) (by decide) ⟨Nat.zero_le _, Nat.zero_le _⟩ dX9_wire_3 (s_X9_between hfl rfl) npX9_between rfl (Nat.le_of_ble_eq_true rfl) ?_
  refine j_if_eq hX (tgt := 17) dX9_wire_6 (by decide) (fun hc => ?_) (fun hc => ?_)
  · rw [if_pos hc] at h
    refine j_iconst hX dX9_wire_17 (rc rfl) ?_
    refine j_sub [0, 2] rfl ?_
    exact sj_X9_wire_18 hX hR hfl hnl hE  h
  · rw [if_neg hc] at h
    refine j_aload_n hX 0 dX9_wire_9 rfl rfl ?_
    refine j_iload_n hX 1 dX9_wire_10 rfl rfl ?_
    obtain ⟨x10, S9, h1, h⟩ := bd2_s h
    refine j_callVI hX mwX9_opened miX9_opened wd691 cbX9 ty0 hyX9_opened (by omega) (by decide) ⟨Nat.zero_le _, Nat.zero_le _⟩ dX9_wire_11 (s_X9_opened hfl hE h1) npX9_opened rfl (Nat.le_of_ble_eq_true rfl) ?_
    refine j_goto hX (tgt := 18) dX9_wire_14 (by decide) ?_
    refine j_sub [0, 2] rfl ?_
    exact sj_X9_wire_18 hX hR hfl hnl hE  h
theorem s_X9_say {g : G0} {B : Nat → Nat} {n : Nat} {E : Mem → Mem} {a1 : Int} {a2 : Int} {S : Mem} {r : Int} {S' : Mem} (hfl : g.2.2.2.2 = true) (hE : Lens E PC) (h : g_X9_say a1 a2 S = some (r, S')) : Cn g B n yX9_say cX9_say 6 (some .int) 7 [vR 0, vI (a1), vI (a2)] (E S) (QcI g B n r (E S')) := by
  refine Cn.of (by decide +kernel) (Nat.le_of_ble_eq_true rfl) (fun X hg hnl hX hR => ?_)
  subst hg
  have hX : Ctx X cX9_say "TelegramFeelings" 7 := hX
  unfold g_X9_say at h
  show JW X B n 0 0 0 [(0, vR 0), (1, vI (a1)), (2, vI (a2))] [] (E S) (QM X (QcI (gX X) B n r (E S')))
  refine j_iload_n hX 1 dX9_say_0 rfl rfl ?_
  refine j_iconst hX dX9_say_1 (rc rfl) ?_
  refine j_sipush hX dX9_say_2 (rc rfl) (by decide) ?_
  refine j_callSI hX mwX9_between msX9_between wd463 hyX9_between (by omega) (by decide) ⟨Nat.zero_le _, Nat.zero_le _⟩ dX9_say_5 (s_X9_between hfl rfl) npX9_between rfl (Nat.le_of_ble_eq_true rfl) ?_
  refine j_if_eq hX (tgt := 17) dX9_say_8 (by decide) (fun hc => ?_) (fun hc => ?_)
  · rw [if_pos hc] at h
    refine j_iconst hX dX9_say_17 (rc rfl) ?_
    cases h
    exact j_iret hX hR dX9_say_18
  · rw [if_neg hc] at h
    refine j_iload_n hX 2 dX9_say_11 rfl rfl ?_
    refine j_bipush hX dX9_say_12 (rc rfl) (by decide) ?_
    refine j_icmp_ge hX (tgt := 19) dX9_say_14 (by decide) (fun hc => ?_) (fun hc => ?_)
    · rw [if_pos hc] at h
      refine j_aload_n hX 0 dX9_say_19 rfl rfl ?_
      refine j_getS (k := 4) hX hfl cbX9 ty0 (by decide) rfl wd408 rfl sb0_4 dX9_say_20 ?_
      refine j_iload_n hX 1 dX9_say_23 rfl rfl ?_
      refine j_bipush hX dX9_say_24 (rc rfl) (by decide) ?_
      refine j_idiv hX dX9_say_26 (by decide) ?_
      refine j_iload_n hX 1 dX9_say_27 rfl rfl ?_
      refine j_bipush hX dX9_say_28 (rc rfl) (by decide) ?_
      refine j_irem hX dX9_say_30 (by decide) ?_
      obtain ⟨x2, S1, h1, h⟩ := bd2_s h
      refine j_callVL hX mwX6_cheapest miX6_cheapest wd746 cbX6 ty34 hyX6_cheapest (by omega) (by decide) ⟨Nat.zero_le _, Nat.zero_le _⟩ dX9_say_31 (s_X6_cheapest hfl hE h1) npX6_cheapest rfl (Nat.le_of_ble_eq_true rfl) ?_
      refine j_lstore_n (L' := [(3, vL (x2)), (0, vR 0), (1, vI (a1)), (2, vI (a2))]) hX dX9_say_34 rfl hnl (by decide) rfl ?_
      refine j_lload_n hX 0 dX9_say_35 rfl rfl ?_
      refine j_lconst (z := 0) hX dX9_say_36 rfl (rcl rfl) ?_
      refine j_lcmp hX dX9_say_37 ?_
      refine j_if_ge hX (tgt := 44) dX9_say_38 (by decide) (fun hc => ?_) (fun hc => ?_)
      · rw [if_pos hc] at h
        refine j_iload_n hX 3 dX9_say_44 rfl rfl ?_
        refine j_iconst hX dX9_say_45 (rc rfl) ?_
        refine j_icmp_ne hX (tgt := 54) dX9_say_46 (by decide) (fun hc => ?_) (fun hc => ?_)
        · rw [if_neg hc] at h
          refine j_lload_n hX 0 dX9_say_54 rfl rfl ?_
          refine j_callSI hX mwX6_manyIn msX6_manyIn wd780 hyX6_manyIn (by omega) (by decide) ⟨Nat.zero_le _, Nat.zero_le _⟩ dX9_say_55 (s_X6_manyIn hfl rfl) npX6_manyIn rfl (Nat.le_of_ble_eq_true rfl) ?_
          refine j_istore (L' := [(5, vI (g_X6_manyIn x2)), (3, vL (x2)), (0, vR 0), (1, vI (a1)), (2, vI (a2))]) hX dX9_say_58 hnl (by decide) rfl ?_
          refine j_iload_n hX 4 dX9_say_60 rfl rfl ?_
          refine j_bipush hX dX9_say_61 (rc rfl) (by decide) ?_
          refine j_icmp_ne hX (tgt := 69) dX9_say_63 (by decide) (fun hc => ?_) (fun hc => ?_)
          · rw [if_neg hc] at h
            refine j_iload_n hX 4 dX9_say_69 rfl rfl ?_
            refine j_iload hX 0 dX9_say_70 rfl ?_
            refine j_icmp_ge hX (tgt := 83) dX9_say_72 (by decide) (fun hc => ?_) (fun hc => ?_)
            · rw [if_pos hc] at h
              refine j_bipush hX dX9_say_83 (rc rfl) (by decide) ?_
              cases h
              exact j_iret hX hR dX9_say_85
            · rw [if_neg hc] at h
              refine j_lload_n hX 1 dX9_say_75 rfl rfl ?_
              refine j_iload_n hX 4 dX9_say_76 rfl rfl ?_
              refine j_callSI hX mwX6_wordIn msX6_wordIn wd784 hyX6_wordIn (by omega) (by decide) ⟨Nat.zero_le _, Nat.zero_le _⟩ dX9_say_77 (s_X6_wordIn hfl rfl) npX6_wordIn rfl (Nat.le_of_ble_eq_true rfl) ?_
              refine j_goto hX (tgt := 85) dX9_say_80 (by decide) ?_
              cases h
              exact j_iret hX hR dX9_say_85
          · rw [if_pos hc] at h
            refine j_iload hX 0 dX9_say_66 rfl ?_
            cases h
            exact j_iret hX hR dX9_say_68
        · rw [if_pos hc] at h
          refine j_lload_n hX 0 dX9_say_49 rfl rfl ?_
          refine j_callSI hX mwX6_priceIn msX6_priceIn wd777 hyX6_priceIn (by omega) (by decide) ⟨Nat.zero_le _, Nat.zero_le _⟩ dX9_say_50 (s_X6_priceIn hfl rfl) npX6_priceIn rfl (Nat.le_of_ble_eq_true rfl) ?_
          cases h
          exact j_iret hX hR dX9_say_53
      · rw [if_neg hc] at h
        refine j_bipush hX dX9_say_41 (rc rfl) (by decide) ?_
        cases h
        exact j_iret hX hR dX9_say_43
    · rw [if_neg hc] at h
      refine j_iconst hX dX9_say_17 (rc rfl) ?_
      cases h
      exact j_iret hX hR dX9_say_18
theorem s_X9_allFor {g : G0} {B : Nat → Nat} {n : Nat} {E : Mem → Mem} {a1 : Int} {a2 : Int} {S : Mem} {r : Int} {S' : Mem} (hfl : g.2.2.2.2 = true) (hE : Lens E PC) (h : g_X9_allFor a1 a2 S = some (r, S')) : Cn g B n yX9_allFor cX9_allFor 4 (some .int) 7 [vR 0, vI (a1), vI (a2)] (E S) (QcI g B n r (E S')) := by
  refine Cn.of (by decide +kernel) (Nat.le_of_ble_eq_true rfl) (fun X hg hnl hX hR => ?_)
  subst hg
  have hX : Ctx X cX9_allFor "TelegramFeelings" 7 := hX
  unfold g_X9_allFor at h
  show JW X B n 0 0 0 [(0, vR 0), (1, vI (a1)), (2, vI (a2))] [] (E S) (QM X (QcI (gX X) B n r (E S')))
  refine j_iload_n hX 1 dX9_allFor_0 rfl rfl ?_
  refine j_iconst hX dX9_allFor_1 (rc rfl) ?_
  refine j_sipush hX dX9_allFor_2 (rc rfl) (by decide) ?_
  refine j_callSI hX mwX9_between msX9_between wd463 hyX9_between (by omega) (by decide) ⟨Nat.zero_le _, Nat.zero_le _⟩ dX9_allFor_5 (s_X9_between hfl rfl) npX9_between rfl (Nat.le_of_ble_eq_true rfl) ?_
  refine j_if_eq hX (tgt := 20) dX9_allFor_8 (by decide) (fun hc => ?_) (fun hc => ?_)
  · rw [if_pos hc] at h
    refine j_iconst hX dX9_allFor_20 (rc rfl) ?_
    cases h
    exact j_iret hX hR dX9_allFor_21
  · rw [if_neg hc] at h
    refine j_iload_n hX 2 dX9_allFor_11 rfl rfl ?_
    refine j_iconst hX dX9_allFor_12 (rc rfl) ?_
    refine j_iconst hX dX9_allFor_13 (rc rfl) ?_
    refine j_callSI hX mwX9_between msX9_between wd463 hyX9_between (by omega) (by decide) ⟨Nat.zero_le _, Nat.zero_le _⟩ dX9_allFor_14 (s_X9_between hfl rfl) npX9_between rfl (Nat.le_of_ble_eq_true rfl) ?_
    refine j_if_ne hX (tgt := 22) dX9_allFor_17 (by decide) (fun hc => ?_) (fun hc => ?_)
    · rw [if_neg hc] at h
      refine j_aload_n hX 0 dX9_allFor_22 rfl rfl ?_
      refine j_getS (k := 4) hX hfl cbX9 ty0 (by decide) rfl wd408 rfl sb0_4 dX9_allFor_23 ?_
      refine j_iload_n hX 1 dX9_allFor_26 rfl rfl ?_
      obtain ⟨x2, S1, h1, h⟩ := bd2_s h
      refine j_callVI hX mwX6_widest miX6_widest wd792 cbX6 ty34 hyX6_widest (by omega) (by decide) ⟨Nat.zero_le _, Nat.zero_le _⟩ dX9_allFor_27 (s_X6_widest hfl hE h1) npX6_widest rfl (Nat.le_of_ble_eq_true rfl) ?_
      refine j_istore_n (L' := [(3, vI (x2)), (0, vR 0), (1, vI (a1)), (2, vI (a2))]) hX dX9_allFor_30 rfl hnl (by decide) rfl ?_
      refine j_iload_n hX 0 dX9_allFor_31 rfl rfl ?_
      refine j_if_ge hX (tgt := 38) dX9_allFor_32 (by decide) (fun hc => ?_) (fun hc => ?_)
      · rw [if_pos hc] at h
        refine j_iload_n hX 3 dX9_allFor_38 rfl rfl ?_
        refine j_if_ne hX (tgt := 49) dX9_allFor_39 (by decide) (fun hc => ?_) (fun hc => ?_)
        · rw [if_neg hc] at h
          refine j_iload_n hX 0 dX9_allFor_49 rfl rfl ?_
          cases h
          exact j_iret hX hR dX9_allFor_50
        · rw [if_pos hc] at h
          refine j_iload_n hX 0 dX9_allFor_42 rfl rfl ?_
          refine j_callSI hX mwJ6_bitCount_0f7a4 msJ6_bitCount_0f7a4 wd807 hyJ6_bitCount_0f7a4 (by omega) (by decide) ⟨Nat.zero_le _, Nat.zero_le _⟩ dX9_allFor_43 (s_J6_bitCount_0f7a4 rfl) npJ6_bitCount_0f7a4 rfl (Nat.le_of_ble_eq_true rfl) ?_
          refine j_goto hX (tgt := 50) dX9_allFor_46 (by decide) ?_
          cases h
          exact j_iret hX hR dX9_allFor_50
      · rw [if_neg hc] at h
        refine j_bipush hX dX9_allFor_35 (rc rfl) (by decide) ?_
        cases h
        exact j_iret hX hR dX9_allFor_37
    · rw [if_pos hc] at h
      refine j_iconst hX dX9_allFor_20 (rc rfl) ?_
      cases h
      exact j_iret hX hR dX9_allFor_21
theorem s_X9_tooDear {g : G0} {B : Nat → Nat} {n : Nat} {E : Mem → Mem} {a1 : Int} {S : Mem} {r : Int} {S' : Mem} (hfl : g.2.2.2.2 = true) (hE : Lens E PC) (h : g_X9_tooDear a1 S = some (r, S')) : Cn g B n yX9_tooDear cX9_tooDear 2 (some .int) 7 [vR 0, vI (a1)] (E S) (QcI g B n r (E S')) := by
  refine Cn.of (by decide +kernel) (Nat.le_of_ble_eq_true rfl) (fun X hg hnl hX hR => ?_)
  subst hg
  have hX : Ctx X cX9_tooDear "TelegramFeelings" 7 := hX
  unfold g_X9_tooDear at h
  show JW X B n 0 0 0 [(0, vR 0), (1, vI (a1))] [] (E S) (QM X (QcI (gX X) B n r (E S')))
  refine j_aload_n hX 0 dX9_tooDear_0 rfl rfl ?_
  refine j_getS (k := 0) hX hfl cbX9 ty0 (by decide) rfl wd404 rfl sb0_0 dX9_tooDear_1 ?_
  refine j_iload_n hX 1 dX9_tooDear_4 rfl rfl ?_
  refine j_iconst hX dX9_tooDear_5 (rc rfl) ?_
  refine j_callVI hX mwX5_has miX5_has wd496 cbX5 ty1 hyX5_has (by omega) (by decide) ⟨Nat.zero_le _, Nat.zero_le _⟩ dX9_tooDear_6 (s_X5_has hfl hE rfl) npX5_has rfl (Nat.le_of_ble_eq_true rfl) ?_
  refine j_if_ne hX (tgt := 14) dX9_tooDear_9 (by decide) (fun hc => ?_) (fun hc => ?_)
  · rw [if_neg hc] at h
    refine j_aload_n hX 0 dX9_tooDear_14 rfl rfl ?_
    refine j_getS (k := 4) hX hfl cbX9 ty0 (by decide) rfl wd408 rfl sb0_4 dX9_tooDear_15 ?_
    refine j_aload_n hX 0 dX9_tooDear_18 rfl rfl ?_
    refine j_getS (k := 0) hX hfl cbX9 ty0 (by decide) rfl wd404 rfl sb0_0 dX9_tooDear_19 ?_
    refine j_iload_n hX 1 dX9_tooDear_22 rfl rfl ?_
    refine j_iconst hX dX9_tooDear_23 (rc rfl) ?_
    obtain ⟨x1, h1, h⟩ := bs h
    refine j_callVI hX mwX5_value miX5_value wd497 cbX5 ty1 hyX5_value (by omega) (by decide) ⟨Nat.zero_le _, Nat.zero_le _⟩ dX9_tooDear_24 (s_X5_value hfl hE h1) npX5_value rfl (Nat.le_of_ble_eq_true rfl) ?_
    obtain ⟨x3, S2, h1, h⟩ := bd2_s h
    refine j_callVI hX mwX6_within miX6_within wd812 cbX6 ty34 hyX6_within (by omega) (by decide) ⟨Nat.zero_le _, Nat.zero_le _⟩ dX9_tooDear_27 (s_X6_within hfl hE h1) npX6_within rfl (Nat.le_of_ble_eq_true rfl) ?_
    refine j_iconst hX dX9_tooDear_30 (rc rfl) ?_
    refine j_ixor hX dX9_tooDear_31 ?_
    refine j_bipush hX dX9_tooDear_32 (rc rfl) (by decide) ?_
    refine j_iand hX dX9_tooDear_34 ?_
    cases h
    exact j_iret hX hR dX9_tooDear_35
  · rw [if_pos hc] at h
    refine j_iconst hX dX9_tooDear_12 (rc rfl) ?_
    cases h
    exact j_iret hX hR dX9_tooDear_13
theorem sl_X9_offersOn_11 {X : K0} {B : Nat → Nat} {n : Nat} {E : Mem → Mem} {r : Int} (hX : Ctx X cX9_offersOn "TelegramFeelings" 3) (hR : CR X (some .int)) (hfl : (gX X).2.2.2.2 = true) (hnl : X.2.2.2.2.2.2.2.2.2.2.2.2.2.2 = 4) (hE : Lens E PC)  {v1 : Int} {v2 : Int} {S : Mem}  : ∀ (fu : Nat) (v3 : Int), g_X9_offersOn_L11 v1 v2 S fu v3 = some r → JW X B n 0 0 11 [(0, vR 0), (1, vI (v1)), (2, vI (v2)), (3, vI (v3))] [] (E S) (QM X (QcI (gX X) B n r (E S))) := by
  intro fu
  induction fu with
  | zero =>
    intro v3 h
    rw [g_X9_offersOn_L11] at h
    cases h
  | succ fu ih =>
    intro v3 h
    rw [g_X9_offersOn_L11] at h
    refine j_iload_n hX 3 dX9_offersOn_11 rfl rfl ?_
    refine j_bipush hX dX9_offersOn_12 (rc rfl) (by decide) ?_
    refine j_icmp_ge hX (tgt := 82) dX9_offersOn_14 (by decide) (fun hc => ?_) (fun hc => ?_)
    · rw [if_pos hc] at h
      refine j_bipush hX dX9_offersOn_82 (rc rfl) (by decide) ?_
      cases h
      exact j_iret hX hR dX9_offersOn_84
    · rw [if_neg hc] at h
      refine j_iconst hX dX9_offersOn_17 (rc rfl) ?_
      refine j_iload_n hX 3 dX9_offersOn_18 rfl rfl ?_
      refine j_imul hX dX9_offersOn_19 ?_
      refine j_iconst hX dX9_offersOn_20 (rc rfl) ?_
      refine j_iadd hX dX9_offersOn_21 ?_
      refine j_iload_n hX 2 dX9_offersOn_22 rfl rfl ?_
      refine j_icmp_ge hX (tgt := 74) dX9_offersOn_23 (by decide) (fun hc => ?_) (fun hc => ?_)
      · rw [if_pos hc] at h
        refine j_iload_n hX 3 dX9_offersOn_74 rfl rfl ?_
        cases h
        exact j_iret hX hR dX9_offersOn_75
      · rw [if_neg hc] at h
        refine j_aload_n hX 0 dX9_offersOn_26 rfl rfl ?_
        refine j_getS (k := 0) hX hfl cbX9 ty0 (by decide) rfl wd404 rfl sb0_0 dX9_offersOn_27 ?_
        refine j_iconst hX dX9_offersOn_30 (rc rfl) ?_
        refine j_aload_n hX 0 dX9_offersOn_31 rfl rfl ?_
        refine j_getS (k := 2) hX hfl cbX9 ty0 (by decide) rfl wd406 rfl sb0_2 dX9_offersOn_32 ?_
        refine j_iload_n hX 1 dX9_offersOn_35 rfl rfl ?_
        refine j_iconst hX dX9_offersOn_36 (rc rfl) ?_
        refine j_iload_n hX 3 dX9_offersOn_37 rfl rfl ?_
        refine j_imul hX dX9_offersOn_38 ?_
        obtain ⟨x2, h1, h⟩ := bs h
        refine j_callVL hX mwX7_at miX7_at wd480 cbX7 ty19 hyX7_at (by omega) (by decide) ⟨Nat.zero_le _, Nat.zero_le _⟩ dX9_offersOn_39 (s_X7_at hfl hE h1) npX7_at rfl (Nat.le_of_ble_eq_true rfl) ?_
        refine j_l2i hX dX9_offersOn_42 ?_
        obtain ⟨x3, h1, h⟩ := bs h
        refine j_callVI hX mwX5_fits miX5_fits wd436 cbX5 ty1 hyX5_fits (by omega) (by decide) ⟨Nat.zero_le _, Nat.zero_le _⟩ dX9_offersOn_43 (s_X5_fits hfl hE h1) npX5_fits rfl (Nat.le_of_ble_eq_true rfl) ?_
        refine j_if_eq hX (tgt := 74) dX9_offersOn_46 (by decide) (fun hc => ?_) (fun hc => ?_)
        · rw [if_pos hc] at h
          refine j_iload_n hX 3 dX9_offersOn_74 rfl rfl ?_
          cases h
          exact j_iret hX hR dX9_offersOn_75
        · rw [if_neg hc] at h
          refine j_aload_n hX 0 dX9_offersOn_49 rfl rfl ?_
          refine j_getS (k := 0) hX hfl cbX9 ty0 (by decide) rfl wd404 rfl sb0_0 dX9_offersOn_50 ?_
          refine j_iconst hX dX9_offersOn_53 (rc rfl) ?_
          refine j_aload_n hX 0 dX9_offersOn_54 rfl rfl ?_
          refine j_getS (k := 2) hX hfl cbX9 ty0 (by decide) rfl wd406 rfl sb0_2 dX9_offersOn_55 ?_
          refine j_iload_n hX 1 dX9_offersOn_58 rfl rfl ?_
          refine j_iconst hX dX9_offersOn_59 (rc rfl) ?_
          refine j_iload_n hX 3 dX9_offersOn_60 rfl rfl ?_
          refine j_imul hX dX9_offersOn_61 ?_
          refine j_iconst hX dX9_offersOn_62 (rc rfl) ?_
          refine j_iadd hX dX9_offersOn_63 ?_
          obtain ⟨x4, h1, h⟩ := bs h
          refine j_callVL hX mwX7_at miX7_at wd480 cbX7 ty19 hyX7_at (by omega) (by decide) ⟨Nat.zero_le _, Nat.zero_le _⟩ dX9_offersOn_64 (s_X7_at hfl hE h1) npX7_at rfl (Nat.le_of_ble_eq_true rfl) ?_
          refine j_l2i hX dX9_offersOn_67 ?_
          obtain ⟨x5, h1, h⟩ := bs h
          refine j_callVI hX mwX5_fits miX5_fits wd436 cbX5 ty1 hyX5_fits (by omega) (by decide) ⟨Nat.zero_le _, Nat.zero_le _⟩ dX9_offersOn_68 (s_X5_fits hfl hE h1) npX5_fits rfl (Nat.le_of_ble_eq_true rfl) ?_
          refine j_if_ne hX (tgt := 76) dX9_offersOn_71 (by decide) (fun hc => ?_) (fun hc => ?_)
          · rw [if_neg hc] at h
            refine j_iinc (L' := [(3, vI (w32 (v3 + 1))), (0, vR 0), (1, vI (v1)), (2, vI (v2))]) hX 3 dX9_offersOn_76 hnl (by decide) rfl rfl ?_
            refine j_goto hX (tgt := 11) dX9_offersOn_79 (by decide) ?_
            refine j_sub [1, 2, 3, 0] rfl ?_
            exact ih _ h
          · rw [if_pos hc] at h
            refine j_iload_n hX 3 dX9_offersOn_74 rfl rfl ?_
            cases h
            exact j_iret hX hR dX9_offersOn_75
theorem s_X9_offersOn {g : G0} {B : Nat → Nat} {n : Nat} {E : Mem → Mem} {a1 : Int} {S : Mem} {r : Int} (hfl : g.2.2.2.2 = true) (hE : Lens E PC) (h : g_X9_offersOn a1 S = some r) : Cn g B n yX9_offersOn cX9_offersOn 4 (some .int) 3 [vR 0, vI (a1)] (E S) (QcI g B n r (E S)) := by
  refine Cn.of (by decide +kernel) (Nat.le_of_ble_eq_true rfl) (fun X hg hnl hX hR => ?_)
  subst hg
  have hX : Ctx X cX9_offersOn "TelegramFeelings" 3 := hX
  unfold g_X9_offersOn at h
  show JW X B n 0 0 0 [(0, vR 0), (1, vI (a1))] [] (E S) (QM X (QcI (gX X) B n r (E S)))
  refine j_aload_n hX 0 dX9_offersOn_0 rfl rfl ?_
  refine j_getS (k := 2) hX hfl cbX9 ty0 (by decide) rfl wd406 rfl sb0_2 dX9_offersOn_1 ?_
  refine j_iload_n hX 1 dX9_offersOn_4 rfl rfl ?_
  obtain ⟨x1, h1, h⟩ := bs h
  refine j_callVI hX mwX7_sizeOf miX7_sizeOf wd472 cbX7 ty19 hyX7_sizeOf (by omega) (by decide) ⟨Nat.zero_le _, Nat.zero_le _⟩ dX9_offersOn_5 (s_X7_sizeOf hfl hE h1) npX7_sizeOf rfl (Nat.le_of_ble_eq_true rfl) ?_
  refine j_istore_n (L' := [(2, vI (x1)), (0, vR 0), (1, vI (a1))]) hX dX9_offersOn_8 rfl hnl (by decide) rfl ?_
  refine j_iconst hX dX9_offersOn_9 (rc rfl) ?_
  refine j_istore_n (L' := [(3, vI (0)), (2, vI (x1)), (0, vR 0), (1, vI (a1))]) hX dX9_offersOn_10 rfl hnl (by decide) rfl ?_
  refine j_sub [2, 3, 1, 0] rfl ?_
  refine sl_X9_offersOn_11 hX hR hfl hnl hE  _ _ h
theorem sl_X9_sumOf_6 {X : K0} {B : Nat → Nat} {n : Nat} {E : Mem → Mem} {r : Int} (hX : Ctx X cX9_sumOf "TelegramFeelings" 3) (hR : CR X (some .int)) (hfl : (gX X).2.2.2.2 = true) (hnl : X.2.2.2.2.2.2.2.2.2.2.2.2.2.2 = 6) (hE : Lens E PC)  {v1 : Int} {v2 : Int} {v3 : Int} {S : Mem}  : ∀ (fu : Nat) (v4 : Int) (v5 : Int), g_X9_sumOf_L6 v1 v2 v3 S fu v4 v5 = some r → JW X B n 0 0 6 [(0, vR 0), (1, vI (v1)), (2, vI (v2)), (3, vI (v3)), (4, vI (v4)), (5, vI (v5))] [] (E S) (QM X (QcI (gX X) B n r (E S))) := by
  intro fu
  induction fu with
  | zero =>
    intro v4 v5 h
    rw [g_X9_sumOf_L6] at h
    cases h
  | succ fu ih =>
    intro v4 v5 h
    rw [g_X9_sumOf_L6] at h
    refine j_iload hX 5 dX9_sumOf_6 rfl ?_
    refine j_bipush hX dX9_sumOf_8 (rc rfl) (by decide) ?_
    refine j_icmp_ge hX (tgt := 49) dX9_sumOf_10 (by decide) (fun hc => ?_) (fun hc => ?_)
    · rw [if_pos hc] at h
      refine j_iload hX 4 dX9_sumOf_49 rfl ?_
      cases h
      exact j_iret hX hR dX9_sumOf_51
    · rw [if_neg hc] at h
      refine j_iload_n hX 2 dX9_sumOf_13 rfl rfl ?_
      refine j_iload hX 5 dX9_sumOf_14 rfl ?_
      refine j_ishr hX dX9_sumOf_16 ?_
      refine j_iconst hX dX9_sumOf_17 (rc rfl) ?_
      refine j_iand hX dX9_sumOf_18 ?_
      refine j_iconst hX dX9_sumOf_19 (rc rfl) ?_
      refine j_icmp_ne hX (tgt := 43) dX9_sumOf_20 (by decide) (fun hc => ?_) (fun hc => ?_)
      · rw [if_neg hc] at h
        refine j_iinc (L' := [(5, vI (w32 (v5 + 1))), (0, vR 0), (1, vI (v1)), (2, vI (v2)), (3, vI (v3)), (4, vI (v4))]) hX 5 dX9_sumOf_43 hnl (by decide) rfl rfl ?_
        refine j_goto hX (tgt := 6) dX9_sumOf_46 (by decide) ?_
        refine j_sub [1, 2, 3, 4, 5, 0] rfl ?_
        exact ih _ _ h
      · rw [if_pos hc] at h
        refine j_iload hX 4 dX9_sumOf_23 rfl ?_
        refine j_aload_n hX 0 dX9_sumOf_25 rfl rfl ?_
        refine j_getS (k := 2) hX hfl cbX9 ty0 (by decide) rfl wd406 rfl sb0_2 dX9_sumOf_26 ?_
        refine j_iload_n hX 1 dX9_sumOf_29 rfl rfl ?_
        refine j_iconst hX dX9_sumOf_30 (rc rfl) ?_
        refine j_iload hX 5 dX9_sumOf_31 rfl ?_
        refine j_imul hX dX9_sumOf_33 ?_
        refine j_iload_n hX 3 dX9_sumOf_34 rfl rfl ?_
        refine j_iadd hX dX9_sumOf_35 ?_
        obtain ⟨x1, h1, h⟩ := bs h
        refine j_callVL hX mwX7_at miX7_at wd480 cbX7 ty19 hyX7_at (by omega) (by decide) ⟨Nat.zero_le _, Nat.zero_le _⟩ dX9_sumOf_36 (s_X7_at hfl hE h1) npX7_at rfl (Nat.le_of_ble_eq_true rfl) ?_
        refine j_l2i hX dX9_sumOf_39 ?_
        refine j_iadd hX dX9_sumOf_40 ?_
        refine j_istore (L' := [(4, vI (w32 (v4 + (w32 x1)))), (0, vR 0), (1, vI (v1)), (2, vI (v2)), (3, vI (v3)), (5, vI (v5))]) hX dX9_sumOf_41 hnl (by decide) rfl ?_
        refine j_iinc (L' := [(5, vI (w32 (v5 + 1))), (4, vI (w32 (v4 + (w32 x1)))), (0, vR 0), (1, vI (v1)), (2, vI (v2)), (3, vI (v3))]) hX 5 dX9_sumOf_43 hnl (by decide) rfl rfl ?_
        refine j_goto hX (tgt := 6) dX9_sumOf_46 (by decide) ?_
        refine j_sub [2, 3, 4, 5, 1, 0] rfl ?_
        exact ih _ _ h
theorem s_X9_sumOf {g : G0} {B : Nat → Nat} {n : Nat} {E : Mem → Mem} {a1 : Int} {a2 : Int} {a3 : Int} {S : Mem} {r : Int} (hfl : g.2.2.2.2 = true) (hE : Lens E PC) (h : g_X9_sumOf a1 a2 a3 S = some r) : Cn g B n yX9_sumOf cX9_sumOf 6 (some .int) 3 [vR 0, vI (a1), vI (a2), vI (a3)] (E S) (QcI g B n r (E S)) := by
  refine Cn.of (by decide +kernel) (Nat.le_of_ble_eq_true rfl) (fun X hg hnl hX hR => ?_)
  subst hg
  have hX : Ctx X cX9_sumOf "TelegramFeelings" 3 := hX
  unfold g_X9_sumOf at h
  show JW X B n 0 0 0 [(0, vR 0), (1, vI (a1)), (2, vI (a2)), (3, vI (a3))] [] (E S) (QM X (QcI (gX X) B n r (E S)))
  refine j_iconst hX dX9_sumOf_0 (rc rfl) ?_
  refine j_istore (L' := [(4, vI (0)), (0, vR 0), (1, vI (a1)), (2, vI (a2)), (3, vI (a3))]) hX dX9_sumOf_1 hnl (by decide) rfl ?_
  refine j_iconst hX dX9_sumOf_3 (rc rfl) ?_
  refine j_istore (L' := [(5, vI (0)), (4, vI (0)), (0, vR 0), (1, vI (a1)), (2, vI (a2)), (3, vI (a3))]) hX dX9_sumOf_4 hnl (by decide) rfl ?_
  refine j_sub [2, 3, 4, 5, 1, 0] rfl ?_
  refine sl_X9_sumOf_6 hX hR hfl hnl hE  _ _ _ h
theorem sl_X9_bestYear_17 {X : K0} {B : Nat → Nat} {n : Nat} {E : Mem → Mem} {r : Int} (hX : Ctx X cX9_bestYear "TelegramFeelings" 4) (hR : CR X (some .int)) (hfl : (gX X).2.2.2.2 = true) (hnl : X.2.2.2.2.2.2.2.2.2.2.2.2.2.2 = 8) (hE : Lens E PC)  {v1 : Int} {v2 : Int} {v3 : Int} {S : Mem}  : ∀ (fu : Nat) (v4 : Int) (v5 : Int) (v6 : Int), g_X9_bestYear_L17 v1 v2 v3 S fu v4 v5 v6 = some r → JW X B n 0 0 17 [(0, vR 0), (1, vI (v1)), (2, vI (v2)), (3, vI (v3)), (4, vI (v4)), (5, vI (v5)), (6, vI (v6))] [] (E S) (QM X (QcI (gX X) B n r (E S))) := by
  intro fu
  induction fu with
  | zero =>
    intro v4 v5 v6 h
    rw [g_X9_bestYear_L17] at h
    cases h
  | succ fu ih =>
    intro v4 v5 v6 h
    rw [g_X9_bestYear_L17] at h
    refine j_iload hX 6 dX9_bestYear_17 rfl ?_
    refine j_iload_n hX 3 dX9_bestYear_19 rfl rfl ?_
    refine j_icmp_ge hX (tgt := 66) dX9_bestYear_20 (by decide) (fun hc => ?_) (fun hc => ?_)
    · rw [if_pos hc] at h
      refine j_iload hX 4 dX9_bestYear_66 rfl ?_
      cases h
      exact j_iret hX hR dX9_bestYear_68
    · rw [if_neg hc] at h
      refine j_aload_n hX 0 dX9_bestYear_23 rfl rfl ?_
      refine j_iload_n hX 1 dX9_bestYear_24 rfl rfl ?_
      refine j_iload hX 6 dX9_bestYear_25 rfl ?_
      refine j_iconst hX dX9_bestYear_27 (rc rfl) ?_
      obtain ⟨x2, h1, h⟩ := bs h
      refine j_callVI hX mwX9_sumOf miX9_sumOf wd828 cbX9 ty0 hyX9_sumOf (by omega) (by decide) ⟨Nat.zero_le _, Nat.zero_le _⟩ dX9_bestYear_28 (s_X9_sumOf hfl hE h1) npX9_sumOf rfl (Nat.le_of_ble_eq_true rfl) ?_
      refine j_istore (L' := [(7, vI (x2)), (0, vR 0), (1, vI (v1)), (2, vI (v2)), (3, vI (v3)), (4, vI (v4)), (5, vI (v5)), (6, vI (v6))]) hX dX9_bestYear_31 hnl (by decide) rfl ?_
      refine j_iload hX 0 dX9_bestYear_33 rfl ?_
      refine j_iload hX 6 dX9_bestYear_35 rfl ?_
      refine j_icmp_le hX (tgt := 60) dX9_bestYear_37 (by decide) (fun hc => ?_) (fun hc => ?_)
      · rw [if_pos hc] at h
        refine j_iinc (L' := [(6, vI (w32 (v6 + 1))), (7, vI (x2)), (0, vR 0), (1, vI (v1)), (2, vI (v2)), (3, vI (v3)), (4, vI (v4)), (5, vI (v5))]) hX 7 dX9_bestYear_60 hnl (by decide) rfl rfl ?_
        refine j_goto hX (tgt := 17) dX9_bestYear_63 (by decide) ?_
        refine j_sub [2, 3, 4, 5, 6, 7, 0] rfl ?_
        exact ih _ _ _ h
      · rw [if_neg hc] at h
        refine j_aload_n hX 1 dX9_bestYear_40 rfl rfl ?_
        refine j_iload_n hX 2 dX9_bestYear_41 rfl rfl ?_
        refine j_iload hX 7 dX9_bestYear_42 rfl ?_
        refine j_iconst hX dX9_bestYear_44 (rc rfl) ?_
        obtain ⟨x3, h1, h⟩ := bs h
        refine j_callVI hX mwX9_sumOf miX9_sumOf wd828 cbX9 ty0 hyX9_sumOf (by omega) (by decide) ⟨Nat.zero_le _, Nat.zero_le _⟩ dX9_bestYear_45 (s_X9_sumOf hfl hE h1) npX9_sumOf rfl (Nat.le_of_ble_eq_true rfl) ?_
        refine j_iload_n hX 3 dX9_bestYear_48 rfl rfl ?_
        refine j_icmp_gt hX (tgt := 60) dX9_bestYear_49 (by decide) (fun hc => ?_) (fun hc => ?_)
        · rw [if_pos hc] at h
          refine j_iinc (L' := [(6, vI (w32 (v6 + 1))), (7, vI (x2)), (0, vR 0), (1, vI (v1)), (2, vI (v2)), (3, vI (v3)), (4, vI (v4)), (5, vI (v5))]) hX 7 dX9_bestYear_60 hnl (by decide) rfl rfl ?_
          refine j_goto hX (tgt := 17) dX9_bestYear_63 (by decide) ?_
          refine j_sub [2, 3, 4, 5, 6, 7, 0] rfl ?_
          exact ih _ _ _ h
        · rw [if_neg hc] at h
          refine j_iload hX 0 dX9_bestYear_52 rfl ?_
          refine j_istore (L' := [(5, vI (x2)), (7, vI (x2)), (0, vR 0), (1, vI (v1)), (2, vI (v2)), (3, vI (v3)), (4, vI (v4)), (6, vI (v6))]) hX dX9_bestYear_54 hnl (by decide) rfl ?_
          refine j_iload hX 7 dX9_bestYear_56 rfl ?_
          refine j_istore (L' := [(4, vI (v6)), (5, vI (x2)), (7, vI (x2)), (0, vR 0), (1, vI (v1)), (2, vI (v2)), (3, vI (v3)), (6, vI (v6))]) hX dX9_bestYear_58 hnl (by decide) rfl ?_
          refine j_iinc (L' := [(6, vI (w32 (v6 + 1))), (4, vI (v6)), (5, vI (x2)), (7, vI (x2)), (0, vR 0), (1, vI (v1)), (2, vI (v2)), (3, vI (v3))]) hX 7 dX9_bestYear_60 hnl (by decide) rfl rfl ?_
          refine j_goto hX (tgt := 17) dX9_bestYear_63 (by decide) ?_
          refine j_sub [4, 5, 6, 7, 1, 2, 0] rfl ?_
          exact ih _ _ _ h
theorem s_X9_bestYear {g : G0} {B : Nat → Nat} {n : Nat} {E : Mem → Mem} {a1 : Int} {a2 : Int} {S : Mem} {r : Int} (hfl : g.2.2.2.2 = true) (hE : Lens E PC) (h : g_X9_bestYear a1 a2 S = some r) : Cn g B n yX9_bestYear cX9_bestYear 8 (some .int) 4 [vR 0, vI (a1), vI (a2)] (E S) (QcI g B n r (E S)) := by
  refine Cn.of (by decide +kernel) (Nat.le_of_ble_eq_true rfl) (fun X hg hnl hX hR => ?_)
  subst hg
  have hX : Ctx X cX9_bestYear "TelegramFeelings" 4 := hX
  unfold g_X9_bestYear at h
  show JW X B n 0 0 0 [(0, vR 0), (1, vI (a1)), (2, vI (a2))] [] (E S) (QM X (QcI (gX X) B n r (E S)))
  refine j_iconst hX dX9_bestYear_0 (rc rfl) ?_
  refine j_aload_n hX 0 dX9_bestYear_1 rfl rfl ?_
  refine j_iload_n hX 1 dX9_bestYear_2 rfl rfl ?_
  obtain ⟨x1, h1, h⟩ := bs h
  refine j_callVI hX mwX9_offersOn miX9_offersOn wd824 cbX9 ty0 hyX9_offersOn (by omega) (by decide) ⟨Nat.zero_le _, Nat.zero_le _⟩ dX9_bestYear_3 (s_X9_offersOn hfl hE h1) npX9_offersOn rfl (Nat.le_of_ble_eq_true rfl) ?_
  refine j_ishl hX dX9_bestYear_6 ?_
  refine j_istore_n (L' := [(3, vI (o_shl 1 x1)), (0, vR 0), (1, vI (a1)), (2, vI (a2))]) hX dX9_bestYear_7 rfl hnl (by decide) rfl ?_
  refine j_iconst hX dX9_bestYear_8 (rc rfl) ?_
  refine j_istore (L' := [(4, vI (0)), (3, vI (o_shl 1 x1)), (0, vR 0), (1, vI (a1)), (2, vI (a2))]) hX dX9_bestYear_9 hnl (by decide) rfl ?_
  refine j_iconst hX dX9_bestYear_11 (rc rfl) ?_
  refine j_istore (L' := [(5, vI (0)), (4, vI (0)), (3, vI (o_shl 1 x1)), (0, vR 0), (1, vI (a1)), (2, vI (a2))]) hX dX9_bestYear_12 hnl (by decide) rfl ?_
  refine j_iconst hX dX9_bestYear_14 (rc rfl) ?_
  refine j_istore (L' := [(6, vI (1)), (5, vI (0)), (4, vI (0)), (3, vI (o_shl 1 x1)), (0, vR 0), (1, vI (a1)), (2, vI (a2))]) hX dX9_bestYear_15 hnl (by decide) rfl ?_
  refine j_sub [4, 5, 6, 3, 2, 1, 0] rfl ?_
  refine sl_X9_bestYear_17 hX hR hfl hnl hE  _ _ _ _ h
theorem s_X9_year {g : G0} {B : Nat → Nat} {n : Nat} {E : Mem → Mem} {a1 : Int} {a2 : Int} {a3 : Int} {S : Mem} {r : Int} (hfl : g.2.2.2.2 = true) (hE : Lens E PC) (h : g_X9_year a1 a2 a3 S = some r) : Cn g B n yX9_year cX9_year 6 (some .int) 5 [vR 0, vI (a1), vI (a2), vI (a3)] (E S) (QcI g B n r (E S)) := by
  refine Cn.of (by decide +kernel) (Nat.le_of_ble_eq_true rfl) (fun X hg hnl hX hR => ?_)
  subst hg
  have hX : Ctx X cX9_year "TelegramFeelings" 5 := hX
  unfold g_X9_year at h
  show JW X B n 0 0 0 [(0, vR 0), (1, vI (a1)), (2, vI (a2)), (3, vI (a3))] [] (E S) (QM X (QcI (gX X) B n r (E S)))
  refine j_aload_n hX 0 dX9_year_0 rfl rfl ?_
  refine j_getS (k := 0) hX hfl cbX9 ty0 (by decide) rfl wd404 rfl sb0_0 dX9_year_1 ?_
  refine j_iload_n hX 2 dX9_year_4 rfl rfl ?_
  refine j_iconst hX dX9_year_5 (rc rfl) ?_
  refine j_callVI hX mwX5_has miX5_has wd496 cbX5 ty1 hyX5_has (by omega) (by decide) ⟨Nat.zero_le _, Nat.zero_le _⟩ dX9_year_6 (s_X5_has hfl hE rfl) npX5_has rfl (Nat.le_of_ble_eq_true rfl) ?_
  refine j_if_eq hX (tgt := 21) dX9_year_9 (by decide) (fun hc => ?_) (fun hc => ?_)
  · rw [if_pos hc] at h
    refine j_iconst hX dX9_year_21 (rc rfl) ?_
    cases h
    exact j_iret hX hR dX9_year_22
  · rw [if_neg hc] at h
    refine j_iload_n hX 3 dX9_year_12 rfl rfl ?_
    refine j_iconst hX dX9_year_13 (rc rfl) ?_
    refine j_iconst hX dX9_year_14 (rc rfl) ?_
    refine j_callSI hX mwX9_between msX9_between wd463 hyX9_between (by omega) (by decide) ⟨Nat.zero_le _, Nat.zero_le _⟩ dX9_year_15 (s_X9_between hfl rfl) npX9_between rfl (Nat.le_of_ble_eq_true rfl) ?_
    refine j_if_ne hX (tgt := 23) dX9_year_18 (by decide) (fun hc => ?_) (fun hc => ?_)
    · rw [if_neg hc] at h
      refine j_aload_n hX 0 dX9_year_23 rfl rfl ?_
      refine j_getS (k := 2) hX hfl cbX9 ty0 (by decide) rfl wd406 rfl sb0_2 dX9_year_24 ?_
      refine j_iload_n hX 1 dX9_year_27 rfl rfl ?_
      refine j_iconst hX dX9_year_28 (rc rfl) ?_
      obtain ⟨x1, h1, h⟩ := bs h
      refine j_callVI hX mwX7_refusal miX7_refusal wd464 cbX7 ty19 hyX7_refusal (by omega) (by decide) ⟨Nat.zero_le _, Nat.zero_le _⟩ dX9_year_29 (s_X7_refusal hfl hE h1) npX7_refusal rfl (Nat.le_of_ble_eq_true rfl) ?_
      refine j_istore (L' := [(4, vI (x1)), (0, vR 0), (1, vI (a1)), (2, vI (a2)), (3, vI (a3))]) hX dX9_year_32 hnl (by decide) rfl ?_
      refine j_iload hX 0 dX9_year_34 rfl ?_
      refine j_if_eq hX (tgt := 42) dX9_year_36 (by decide) (fun hc => ?_) (fun hc => ?_)
      · rw [if_pos hc] at h
        refine j_aload_n hX 1 dX9_year_42 rfl rfl ?_
        refine j_iload_n hX 2 dX9_year_43 rfl rfl ?_
        refine j_aload_n hX 1 dX9_year_44 rfl rfl ?_
        refine j_getS (k := 0) hX hfl cbX9 ty0 (by decide) rfl wd404 rfl sb0_0 dX9_year_45 ?_
        refine j_iload_n hX 3 dX9_year_48 rfl rfl ?_
        refine j_iconst hX dX9_year_49 (rc rfl) ?_
        obtain ⟨x2, h1, h⟩ := bs h
        refine j_callVI hX mwX5_value miX5_value wd497 cbX5 ty1 hyX5_value (by omega) (by decide) ⟨Nat.zero_le _, Nat.zero_le _⟩ dX9_year_50 (s_X5_value hfl hE h1) npX5_value rfl (Nat.le_of_ble_eq_true rfl) ?_
        obtain ⟨x3, h1, h⟩ := bs h
        refine j_callVI hX mwX9_bestYear miX9_bestYear wd820 cbX9 ty0 hyX9_bestYear (by omega) (by decide) ⟨Nat.zero_le _, Nat.zero_le _⟩ dX9_year_53 (s_X9_bestYear hfl hE h1) npX9_bestYear rfl (Nat.le_of_ble_eq_true rfl) ?_
        refine j_istore (L' := [(5, vI (x3)), (4, vI (x1)), (0, vR 0), (1, vI (a1)), (2, vI (a2)), (3, vI (a3))]) hX dX9_year_56 hnl (by decide) rfl ?_
        refine j_iload_n hX 5 dX9_year_58 rfl rfl ?_
        refine j_if_ne hX (tgt := 73) dX9_year_59 (by decide) (fun hc => ?_) (fun hc => ?_)
        · rw [if_neg hc] at h
          refine j_iload hX 0 dX9_year_73 rfl ?_
          cases h
          exact j_iret hX hR dX9_year_75
        · rw [if_pos hc] at h
          refine j_aload_n hX 2 dX9_year_62 rfl rfl ?_
          refine j_iload_n hX 3 dX9_year_63 rfl rfl ?_
          refine j_iload hX 0 dX9_year_64 rfl ?_
          refine j_iconst hX dX9_year_66 (rc rfl) ?_
          obtain ⟨x4, h1, h⟩ := bs h
          refine j_callVI hX mwX9_sumOf miX9_sumOf wd828 cbX9 ty0 hyX9_sumOf (by omega) (by decide) ⟨Nat.zero_le _, Nat.zero_le _⟩ dX9_year_67 (s_X9_sumOf hfl hE h1) npX9_sumOf rfl (Nat.le_of_ble_eq_true rfl) ?_
          refine j_goto hX (tgt := 75) dX9_year_70 (by decide) ?_
          cases h
          exact j_iret hX hR dX9_year_75
      · rw [if_neg hc] at h
        refine j_iload hX 0 dX9_year_39 rfl ?_
        cases h
        exact j_iret hX hR dX9_year_41
    · rw [if_pos hc] at h
      refine j_iconst hX dX9_year_21 (rc rfl) ?_
      cases h
      exact j_iret hX hR dX9_year_22
theorem s_X9_came {g : G0} {B : Nat → Nat} {n : Nat} {E : Mem → Mem} {a1 : Int} {S : Mem} {r : Int} {S' : Mem} (hfl : g.2.2.2.2 = true) (hE : Lens E PC) (h : g_X9_came a1 S = some (r, S')) : Cn g B n yX9_came cX9_came 2 (some .long) 5 [vR 0, vI (a1)] (E S) (QcL g B n r (E S')) := by
  refine Cn.of (by decide +kernel) (Nat.le_of_ble_eq_true rfl) (fun X hg hnl hX hR => ?_)
  subst hg
  have hX : Ctx X cX9_came "TelegramFeelings" 5 := hX
  unfold g_X9_came at h
  show JW X B n 0 0 0 [(0, vR 0), (1, vI (a1))] [] (E S) (QM X (QcL (gX X) B n r (E S')))
  refine j_aload_n hX 0 dX9_came_0 rfl rfl ?_
  refine j_iload_n hX 1 dX9_came_1 rfl rfl ?_
  obtain ⟨x2, S1, h1, h⟩ := bd2_s h
  refine j_callVI hX mwX9_opened miX9_opened wd691 cbX9 ty0 hyX9_opened (by omega) (by decide) ⟨Nat.zero_le _, Nat.zero_le _⟩ dX9_came_2 (s_X9_opened hfl hE h1) npX9_opened rfl (Nat.le_of_ble_eq_true rfl) ?_
  refine j_if_ne hX (tgt := 20) dX9_came_5 (by decide) (fun hc => ?_) (fun hc => ?_)
  · rw [if_neg hc] at h
    refine j_ldc2 (z := (-9223372036854775808)) hX wd868 (by decide) dX9_came_20 (rcl rfl) ?_
    cases h
    exact j_lret hX hR dX9_came_23
  · rw [if_pos hc] at h
    refine j_aload_n hX 0 dX9_came_8 rfl rfl ?_
    refine j_getS (k := 5) hX hfl cbX9 ty0 (by decide) rfl wd409 rfl sb0_5 dX9_came_9 ?_
    refine j_iconst hX dX9_came_12 (rc rfl) ?_
    refine j_iconst hX dX9_came_13 (rc rfl) ?_
    obtain ⟨x4, S3, h1, h⟩ := bd2_s h
    refine j_callVL hX mwX3_sum miX3_sum wd836 cbX3 ty38 hyX3_sum (by omega) (by decide) ⟨Nat.zero_le _, Nat.zero_le _⟩ dX9_came_14 (s_X3_sum hfl hE h1) npX3_sum rfl (Nat.le_of_ble_eq_true rfl) ?_
    refine j_goto hX (tgt := 23) dX9_came_17 (by decide) ?_
    cases h
    exact j_lret hX hR dX9_came_23
theorem s_X9_cameAs {g : G0} {B : Nat → Nat} {n : Nat} {E : Mem → Mem} {a1 : Int} {a2 : Int} {S : Mem} {r : Int} {S' : Mem} (hfl : g.2.2.2.2 = true) (hE : Lens E PC) (h : g_X9_cameAs a1 a2 S = some (r, S')) : Cn g B n yX9_cameAs cX9_cameAs 4 (some .int) 5 [vR 0, vI (a1), vI (a2)] (E S) (QcI g B n r (E S')) := by
  refine Cn.of (by decide +kernel) (Nat.le_of_ble_eq_true rfl) (fun X hg hnl hX hR => ?_)
  subst hg
  have hX : Ctx X cX9_cameAs "TelegramFeelings" 5 := hX
  unfold g_X9_cameAs at h
  show JW X B n 0 0 0 [(0, vR 0), (1, vI (a1)), (2, vI (a2))] [] (E S) (QM X (QcI (gX X) B n r (E S')))
  refine j_iload_n hX 2 dX9_cameAs_0 rfl rfl ?_
  refine j_if_ge hX (tgt := 8) dX9_cameAs_1 (by decide) (fun hc => ?_) (fun hc => ?_)
  · rw [if_pos hc] at h
    refine j_aload_n hX 0 dX9_cameAs_8 rfl rfl ?_
    refine j_iload_n hX 1 dX9_cameAs_9 rfl rfl ?_
    obtain ⟨x2, S1, h1, h⟩ := bd2_s h
    refine j_callVI hX mwX9_opened miX9_opened wd691 cbX9 ty0 hyX9_opened (by omega) (by decide) ⟨Nat.zero_le _, Nat.zero_le _⟩ dX9_cameAs_10 (s_X9_opened hfl hE h1) npX9_opened rfl (Nat.le_of_ble_eq_true rfl) ?_
    refine j_istore_n (L' := [(3, vI (x2)), (0, vR 0), (1, vI (a1)), (2, vI (a2))]) hX dX9_cameAs_13 rfl hnl (by decide) rfl ?_
    refine j_iload_n hX 0 dX9_cameAs_14 rfl rfl ?_
    refine j_if_eq hX (tgt := 20) dX9_cameAs_15 (by decide) (fun hc => ?_) (fun hc => ?_)
    · rw [if_pos hc] at h
      refine j_aload_n hX 1 dX9_cameAs_20 rfl rfl ?_
      refine j_getS (k := 5) hX hfl cbX9 ty0 (by decide) rfl wd409 rfl sb0_5 dX9_cameAs_21 ?_
      refine j_iload_n hX 3 dX9_cameAs_24 rfl rfl ?_
      obtain ⟨x4, S3, h1, h⟩ := bd2_s h
      refine j_callVI hX mwX3_likeliest miX3_likeliest wd873 cbX3 ty38 hyX3_likeliest (by omega) (by decide) ⟨Nat.zero_le _, Nat.zero_le _⟩ dX9_cameAs_25 (s_X3_likeliest hfl hE h1) npX3_likeliest rfl (Nat.le_of_ble_eq_true rfl) ?_
      cases h
      exact j_iret hX hR dX9_cameAs_28
    · rw [if_neg hc] at h
      refine j_iload_n hX 0 dX9_cameAs_18 rfl rfl ?_
      cases h
      exact j_iret hX hR dX9_cameAs_19
  · rw [if_neg hc] at h
    refine j_iconst hX dX9_cameAs_4 (rc rfl) ?_
    refine j_goto hX (tgt := 13) dX9_cameAs_5 (by decide) ?_
    refine j_istore_n (L' := [(3, vI ((-1))), (0, vR 0), (1, vI (a1)), (2, vI (a2))]) hX dX9_cameAs_13 rfl hnl (by decide) rfl ?_
    refine j_iload_n hX 0 dX9_cameAs_14 rfl rfl ?_
    refine j_if_eq hX (tgt := 20) dX9_cameAs_15 (by decide) (fun hc => ?_) (fun hc => ?_)
    · rw [if_pos hc] at h
      refine j_aload_n hX 1 dX9_cameAs_20 rfl rfl ?_
      refine j_getS (k := 5) hX hfl cbX9 ty0 (by decide) rfl wd409 rfl sb0_5 dX9_cameAs_21 ?_
      refine j_iload_n hX 3 dX9_cameAs_24 rfl rfl ?_
      obtain ⟨x6, S5, h1, h⟩ := bd2_s h
      refine j_callVI hX mwX3_likeliest miX3_likeliest wd873 cbX3 ty38 hyX3_likeliest (by omega) (by decide) ⟨Nat.zero_le _, Nat.zero_le _⟩ dX9_cameAs_25 (s_X3_likeliest hfl hE h1) npX3_likeliest rfl (Nat.le_of_ble_eq_true rfl) ?_
      cases h
      exact j_iret hX hR dX9_cameAs_28
    · rw [if_neg hc] at h
      refine j_iload_n hX 0 dX9_cameAs_18 rfl rfl ?_
      cases h
      exact j_iret hX hR dX9_cameAs_19
theorem sl_X9_inLowest_25 {X : K0} {B : Nat → Nat} {n : Nat} {M : Mem} {r : Int} (hX : Ctx X cX9_inLowest "TelegramFeelings" 1) (hR : CR X (some .long)) (hfl : (gX X).2.2.2.2 = true) (hnl : X.2.2.2.2.2.2.2.2.2.2.2.2.2.2 = 12) {k61 : Int → Option Int} {v0 : Int} {v2 : Int} {v4 : Int} (K61 : ∀ (v5 : Int), k61 v5 = some r → JW X B n 0 0 61 [(0, vL (v0)), (2, vL (v2)), (4, vI (v4)), (5, vL (v5))] [] (M) (QM X (QcL (gX X) B n r M))) : ∀ (fu : Nat) (v5 : Int) (v7 : Int) (v9 : Int), g_X9_inLowest_L25 k61 v0 v2 v4 fu v5 v7 v9 = some r → JW X B n 0 0 25 [(0, vL (v0)), (2, vL (v2)), (4, vI (v4)), (5, vL (v5)), (7, vL (v7)), (9, vI (v9))] [] (M) (QM X (QcL (gX X) B n r M)) := by
  intro fu
  induction fu with
  | zero =>
    intro v5 v7 v9 h
    rw [g_X9_inLowest_L25] at h
    cases h
  | succ fu ih =>
    intro v5 v7 v9 h
    rw [g_X9_inLowest_L25] at h
    refine j_iload hX 5 dX9_inLowest_25 rfl ?_
    refine j_sipush hX dX9_inLowest_27 (rc rfl) (by decide) ?_
    refine j_icmp_ge hX (tgt := 61) dX9_inLowest_30 (by decide) (fun hc => ?_) (fun hc => ?_)
    · rw [if_pos hc] at h
      refine j_sub [0, 1, 2, 3] rfl ?_
      exact K61 _ h
    · rw [if_neg hc] at h
      refine j_lload hX 4 dX9_inLowest_33 rfl ?_
      refine j_lconst (z := 0) hX dX9_inLowest_35 rfl (rcl rfl) ?_
      refine j_lcmp hX dX9_inLowest_36 ?_
      refine j_if_eq hX (tgt := 61) dX9_inLowest_37 (by decide) (fun hc => ?_) (fun hc => ?_)
      · rw [if_pos hc] at h
        refine j_sub [0, 1, 2, 3] rfl ?_
        exact K61 _ h
      · rw [if_neg hc] at h
        refine j_lload hX 3 dX9_inLowest_40 rfl ?_
        refine j_lload hX 4 dX9_inLowest_42 rfl ?_
        obtain ⟨hz, h⟩ := chk_s h
        refine j_lrem hX dX9_inLowest_44 hz ?_
        refine j_lstore (L' := [(10, vL (Int.tmod v5 v7)), (0, vL (v0)), (2, vL (v2)), (4, vI (v4)), (5, vL (v5)), (7, vL (v7)), (9, vI (v9))]) hX dX9_inLowest_45 hnl (by decide) rfl ?_
        refine j_lload hX 5 dX9_inLowest_47 rfl ?_
        refine j_lstore (L' := [(5, vL (v7)), (10, vL (Int.tmod v5 v7)), (0, vL (v0)), (2, vL (v2)), (4, vI (v4)), (7, vL (v7)), (9, vI (v9))]) hX dX9_inLowest_49 hnl (by decide) rfl ?_
        refine j_lload hX 1 dX9_inLowest_51 rfl ?_
        refine j_lstore (L' := [(7, vL (Int.tmod v5 v7)), (5, vL (v7)), (10, vL (Int.tmod v5 v7)), (0, vL (v0)), (2, vL (v2)), (4, vI (v4)), (9, vI (v9))]) hX dX9_inLowest_53 hnl (by decide) rfl ?_
        refine j_iinc (L' := [(9, vI (w32 (v9 + 1))), (7, vL (Int.tmod v5 v7)), (5, vL (v7)), (10, vL (Int.tmod v5 v7)), (0, vL (v0)), (2, vL (v2)), (4, vI (v4))]) hX 6 dX9_inLowest_55 hnl (by decide) rfl rfl ?_
        refine j_goto hX (tgt := 25) dX9_inLowest_58 (by decide) ?_
        refine j_sub [4, 5, 6, 2, 1, 0] rfl ?_
        exact ih _ _ _ h
theorem s_X9_inLowest {g : G0} {B : Nat → Nat} {n : Nat} {M : Mem} {a1 : Int} {a2 : Int} {a3 : Int} {r : Int} (hfl : g.2.2.2.2 = true) (h : g_X9_inLowest a1 a2 a3 = some r) : Cn g B n yX9_inLowest cX9_inLowest 12 (some .long) 1 [vL (a1), vL (a2), vI (a3)] M (QcL g B n r M) := by
  refine Cn.of (by decide +kernel) (Nat.le_of_ble_eq_true rfl) (fun X hg hnl hX hR => ?_)
  subst hg
  have hX : Ctx X cX9_inLowest "TelegramFeelings" 1 := hX
  unfold g_X9_inLowest at h
  show JW X B n 0 0 0 [(0, vL (a1)), (2, vL (a2)), (4, vI (a3))] [] (M) (QM X (QcL (gX X) B n r M))
  refine j_lload_n hX 0 dX9_inLowest_0 rfl rfl ?_
  refine j_lconst (z := 0) hX dX9_inLowest_1 rfl (rcl rfl) ?_
  refine j_lcmp hX dX9_inLowest_2 ?_
  refine j_if_le hX (tgt := 12) dX9_inLowest_3 (by decide) (fun hc => ?_) (fun hc => ?_)
  · rw [if_pos hc] at h
    refine j_iload hX 2 dX9_inLowest_12 rfl ?_
    refine j_i2l hX dX9_inLowest_14 ?_
    cases h
    exact j_lret hX hR dX9_inLowest_15
  · rw [if_neg hc] at h
    refine j_lload_n hX 1 dX9_inLowest_6 rfl rfl ?_
    refine j_lconst (z := 0) hX dX9_inLowest_7 rfl (rcl rfl) ?_
    refine j_lcmp hX dX9_inLowest_8 ?_
    refine j_if_gt hX (tgt := 16) dX9_inLowest_9 (by decide) (fun hc => ?_) (fun hc => ?_)
    · rw [if_pos hc] at h
      refine j_lload_n hX 0 dX9_inLowest_16 rfl rfl ?_
      refine j_lstore (L' := [(5, vL (a1)), (0, vL (a1)), (2, vL (a2)), (4, vI (a3))]) hX dX9_inLowest_17 hnl (by decide) rfl ?_
      refine j_lload_n hX 2 dX9_inLowest_19 rfl rfl ?_
      refine j_lstore (L' := [(7, vL (a2)), (5, vL (a1)), (0, vL (a1)), (2, vL (a2)), (4, vI (a3))]) hX dX9_inLowest_20 hnl (by decide) rfl ?_
      refine j_iconst hX dX9_inLowest_22 (rc rfl) ?_
      refine j_istore (L' := [(9, vI (0)), (7, vL (a2)), (5, vL (a1)), (0, vL (a1)), (2, vL (a2)), (4, vI (a3))]) hX dX9_inLowest_23 hnl (by decide) rfl ?_
      refine j_sub [3, 4, 5, 2, 1, 0] rfl ?_
      refine sl_X9_inLowest_25 hX hR hfl hnl (fun y1 h => ?_) _ _ _ _ h
      refine j_lload hX 3 dX9_inLowest_61 rfl ?_
      refine j_lconst (z := 0) hX dX9_inLowest_63 rfl (rcl rfl) ?_
      refine j_lcmp hX dX9_inLowest_64 ?_
      refine j_if_gt hX (tgt := 72) dX9_inLowest_65 (by decide) (fun hc => ?_) (fun hc => ?_)
      · rw [if_pos hc] at h
        refine j_iload hX 2 dX9_inLowest_72 rfl ?_
        refine j_if_ne hX (tgt := 84) dX9_inLowest_74 (by decide) (fun hc => ?_) (fun hc => ?_)
        · rw [if_neg hc] at h
          refine j_lload_n hX 1 dX9_inLowest_84 rfl rfl ?_
          refine j_lload hX 3 dX9_inLowest_85 rfl ?_
          obtain ⟨hz, h⟩ := chk_s h
          refine j_ldiv hX dX9_inLowest_87 hz ?_
          cases h
          exact j_lret hX hR dX9_inLowest_88
        · rw [if_pos hc] at h
          refine j_lload_n hX 0 dX9_inLowest_77 rfl rfl ?_
          refine j_lload hX 3 dX9_inLowest_78 rfl ?_
          obtain ⟨hz, h⟩ := chk_s h
          refine j_ldiv hX dX9_inLowest_80 hz ?_
          refine j_goto hX (tgt := 88) dX9_inLowest_81 (by decide) ?_
          cases h
          exact j_lret hX hR dX9_inLowest_88
      · rw [if_neg hc] at h
        refine j_iload hX 2 dX9_inLowest_68 rfl ?_
        refine j_i2l hX dX9_inLowest_70 ?_
        cases h
        exact j_lret hX hR dX9_inLowest_71
    · rw [if_neg hc] at h
      refine j_iload hX 2 dX9_inLowest_12 rfl ?_
      refine j_i2l hX dX9_inLowest_14 ?_
      cases h
      exact j_lret hX hR dX9_inLowest_15
theorem s_X9_meant {g : G0} {B : Nat → Nat} {n : Nat} {E : Mem → Mem} {a1 : Int} {a2 : Int} {a3 : Int} {S : Mem} {r : Int} {S' : Mem} (hfl : g.2.2.2.2 = true) (hE : Lens E PC) (h : g_X9_meant a1 a2 a3 S = some (r, S')) : Cn g B n yX9_meant cX9_meant 6 (some .long) 5 [vR 0, vI (a1), vI (a2), vI (a3)] (E S) (QcL g B n r (E S')) := by
  refine Cn.of (by decide +kernel) (Nat.le_of_ble_eq_true rfl) (fun X hg hnl hX hR => ?_)
  subst hg
  have hX : Ctx X cX9_meant "TelegramFeelings" 5 := hX
  unfold g_X9_meant at h
  show JW X B n 0 0 0 [(0, vR 0), (1, vI (a1)), (2, vI (a2)), (3, vI (a3))] [] (E S) (QM X (QcL (gX X) B n r (E S')))
  refine j_iload_n hX 2 dX9_meant_0 rfl rfl ?_
  refine j_iconst hX dX9_meant_1 (rc rfl) ?_
  refine j_iconst hX dX9_meant_2 (rc rfl) ?_
  refine j_callSI hX mwX9_between msX9_between wd463 hyX9_between (by omega) (by decide) ⟨Nat.zero_le _, Nat.zero_le _⟩ dX9_meant_3 (s_X9_between hfl rfl) npX9_between rfl (Nat.le_of_ble_eq_true rfl) ?_
  refine j_if_eq hX (tgt := 26) dX9_meant_6 (by decide) (fun hc => ?_) (fun hc => ?_)
  · rw [if_pos hc] at h
    refine j_ldc2 (z := (-9223372036854775808)) hX wd868 (by decide) dX9_meant_26 (rcl rfl) ?_
    cases h
    exact j_lret hX hR dX9_meant_29
  · rw [if_neg hc] at h
    refine j_iload_n hX 3 dX9_meant_9 rfl rfl ?_
    refine j_iconst hX dX9_meant_10 (rc rfl) ?_
    refine j_iconst hX dX9_meant_11 (rc rfl) ?_
    refine j_callSI hX mwX9_between msX9_between wd463 hyX9_between (by omega) (by decide) ⟨Nat.zero_le _, Nat.zero_le _⟩ dX9_meant_12 (s_X9_between hfl rfl) npX9_between rfl (Nat.le_of_ble_eq_true rfl) ?_
    refine j_if_eq hX (tgt := 26) dX9_meant_15 (by decide) (fun hc => ?_) (fun hc => ?_)
    · rw [if_pos hc] at h
      refine j_ldc2 (z := (-9223372036854775808)) hX wd868 (by decide) dX9_meant_26 (rcl rfl) ?_
      cases h
      exact j_lret hX hR dX9_meant_29
    · rw [if_neg hc] at h
      refine j_aload_n hX 0 dX9_meant_18 rfl rfl ?_
      refine j_iload_n hX 1 dX9_meant_19 rfl rfl ?_
      obtain ⟨x2, S1, h1, h⟩ := bd2_s h
      refine j_callVI hX mwX9_opened miX9_opened wd691 cbX9 ty0 hyX9_opened (by omega) (by decide) ⟨Nat.zero_le _, Nat.zero_le _⟩ dX9_meant_20 (s_X9_opened hfl hE h1) npX9_opened rfl (Nat.le_of_ble_eq_true rfl) ?_
      refine j_if_eq hX (tgt := 30) dX9_meant_23 (by decide) (fun hc => ?_) (fun hc => ?_)
      · rw [if_pos hc] at h
        refine j_aload_n hX 0 dX9_meant_30 rfl rfl ?_
        refine j_getS (k := 5) hX hfl cbX9 ty0 (by decide) rfl wd409 rfl sb0_5 dX9_meant_31 ?_
        refine j_iconst hX dX9_meant_34 (rc rfl) ?_
        refine j_iconst hX dX9_meant_35 (rc rfl) ?_
        obtain ⟨x4, S3, h1, h⟩ := bd2_s h
        refine j_callVL hX mwX3_sum miX3_sum wd836 cbX3 ty38 hyX3_sum (by omega) (by decide) ⟨Nat.zero_le _, Nat.zero_le _⟩ dX9_meant_36 (s_X3_sum hfl hE h1) npX3_sum rfl (Nat.le_of_ble_eq_true rfl) ?_
        refine j_lstore (L' := [(4, vL (x4)), (0, vR 0), (1, vI (a1)), (2, vI (a2)), (3, vI (a3))]) hX dX9_meant_39 hnl (by decide) rfl ?_
        refine j_lload hX 0 dX9_meant_41 rfl ?_
        refine j_aload_n hX 1 dX9_meant_43 rfl rfl ?_
        refine j_getS (k := 5) hX hfl cbX9 ty0 (by decide) rfl wd409 rfl sb0_5 dX9_meant_44 ?_
        refine j_iconst hX dX9_meant_47 (rc rfl) ?_
        refine j_iload_n hX 3 dX9_meant_48 rfl rfl ?_
        refine j_ishl hX dX9_meant_49 ?_
        refine j_iconst hX dX9_meant_50 (rc rfl) ?_
        obtain ⟨x6, S5, h1, h⟩ := bd2_s h
        refine j_callVL hX mwX3_sum miX3_sum wd836 cbX3 ty38 hyX3_sum (by omega) (by decide) ⟨Nat.zero_le _, Nat.zero_le _⟩ dX9_meant_51 (s_X3_sum hfl hE h1) npX3_sum rfl (Nat.le_of_ble_eq_true rfl) ?_
        refine j_lsub hX dX9_meant_54 ?_
        refine j_lload hX 0 dX9_meant_55 rfl ?_
        refine j_iload_n hX 4 dX9_meant_57 rfl rfl ?_
        obtain ⟨x7, h1, h⟩ := bs h
        refine j_callSL hX mwX9_inLowest msX9_inLowest wd888 hyX9_inLowest (by omega) (by decide) ⟨Nat.zero_le _, Nat.zero_le _⟩ dX9_meant_58 (s_X9_inLowest hfl h1) npX9_inLowest rfl (Nat.le_of_ble_eq_true rfl) ?_
        cases h
        exact j_lret hX hR dX9_meant_61
      · rw [if_neg hc] at h
        refine j_ldc2 (z := (-9223372036854775808)) hX wd868 (by decide) dX9_meant_26 (rcl rfl) ?_
        cases h
        exact j_lret hX hR dX9_meant_29
theorem s_X9_certain {g : G0} {B : Nat → Nat} {n : Nat} {E : Mem → Mem} {a1 : Int} {S : Mem} {r : Int} {S' : Mem} (hfl : g.2.2.2.2 = true) (hE : Lens E PC) (h : g_X9_certain a1 S = some (r, S')) : Cn g B n yX9_certain cX9_certain 3 (some .int) 6 [vR 0, vI (a1)] (E S) (QcI g B n r (E S')) := by
  refine Cn.of (by decide +kernel) (Nat.le_of_ble_eq_true rfl) (fun X hg hnl hX hR => ?_)
  subst hg
  have hX : Ctx X cX9_certain "TelegramFeelings" 6 := hX
  unfold g_X9_certain at h
  show JW X B n 0 0 0 [(0, vR 0), (1, vI (a1))] [] (E S) (QM X (QcI (gX X) B n r (E S')))
  refine j_aload_n hX 0 dX9_certain_0 rfl rfl ?_
  refine j_iload_n hX 1 dX9_certain_1 rfl rfl ?_
  obtain ⟨x2, S1, h1, h⟩ := bd2_s h
  refine j_callVI hX mwX9_opened miX9_opened wd691 cbX9 ty0 hyX9_opened (by omega) (by decide) ⟨Nat.zero_le _, Nat.zero_le _⟩ dX9_certain_2 (s_X9_opened hfl hE h1) npX9_opened rfl (Nat.le_of_ble_eq_true rfl) ?_
  refine j_istore_n (L' := [(2, vI (x2)), (0, vR 0), (1, vI (a1))]) hX dX9_certain_5 rfl hnl (by decide) rfl ?_
  refine j_iload_n hX 0 dX9_certain_6 rfl rfl ?_
  refine j_if_eq hX (tgt := 14) dX9_certain_7 (by decide) (fun hc => ?_) (fun hc => ?_)
  · rw [if_pos hc] at h
    refine j_aload_n hX 1 dX9_certain_14 rfl rfl ?_
    refine j_getS (k := 5) hX hfl cbX9 ty0 (by decide) rfl wd409 rfl sb0_5 dX9_certain_15 ?_
    obtain ⟨x4, S3, h1, h⟩ := bd2_s h
    refine j_callVI hX mwX3_sure miX3_sure wd895 cbX3 ty38 hyX3_sure (by omega) (by decide) ⟨Nat.zero_le _, Nat.zero_le _⟩ dX9_certain_18 (s_X3_sure hfl hE h1) npX3_sure rfl (Nat.le_of_ble_eq_true rfl) ?_
    cases h
    exact j_iret hX hR dX9_certain_21
  · rw [if_neg hc] at h
    refine j_iload_n hX 0 dX9_certain_10 rfl rfl ?_
    refine j_goto hX (tgt := 21) dX9_certain_11 (by decide) ?_
    cases h
    exact j_iret hX hR dX9_certain_21
theorem s_X9_safe {g : G0} {B : Nat → Nat} {n : Nat} {E : Mem → Mem} {a1 : Int} {a2 : Int} {S : Mem} {r : Int} {S' : Mem} (hfl : g.2.2.2.2 = true) (hE : Lens E PC) (h : g_X9_safe a1 a2 S = some (r, S')) : Cn g B n yX9_safe cX9_safe 3 (some .long) 5 [vR 0, vI (a1), vI (a2)] (E S) (QcL g B n r (E S')) := by
  refine Cn.of (by decide +kernel) (Nat.le_of_ble_eq_true rfl) (fun X hg hnl hX hR => ?_)
  subst hg
  have hX : Ctx X cX9_safe "TelegramFeelings" 5 := hX
  unfold g_X9_safe at h
  show JW X B n 0 0 0 [(0, vR 0), (1, vI (a1)), (2, vI (a2))] [] (E S) (QM X (QcL (gX X) B n r (E S')))
  refine j_iload_n hX 2 dX9_safe_0 rfl rfl ?_
  refine j_iconst hX dX9_safe_1 (rc rfl) ?_
  refine j_iconst hX dX9_safe_2 (rc rfl) ?_
  refine j_callSI hX mwX9_between msX9_between wd463 hyX9_between (by omega) (by decide) ⟨Nat.zero_le _, Nat.zero_le _⟩ dX9_safe_3 (s_X9_between hfl rfl) npX9_between rfl (Nat.le_of_ble_eq_true rfl) ?_
  refine j_if_eq hX (tgt := 17) dX9_safe_6 (by decide) (fun hc => ?_) (fun hc => ?_)
  · rw [if_pos hc] at h
    refine j_ldc2 (z := (-9223372036854775808)) hX wd868 (by decide) dX9_safe_17 (rcl rfl) ?_
    cases h
    exact j_lret hX hR dX9_safe_20
  · rw [if_neg hc] at h
    refine j_aload_n hX 0 dX9_safe_9 rfl rfl ?_
    refine j_iload_n hX 1 dX9_safe_10 rfl rfl ?_
    obtain ⟨x2, S1, h1, h⟩ := bd2_s h
    refine j_callVI hX mwX9_opened miX9_opened wd691 cbX9 ty0 hyX9_opened (by omega) (by decide) ⟨Nat.zero_le _, Nat.zero_le _⟩ dX9_safe_11 (s_X9_opened hfl hE h1) npX9_opened rfl (Nat.le_of_ble_eq_true rfl) ?_
    refine j_if_eq hX (tgt := 21) dX9_safe_14 (by decide) (fun hc => ?_) (fun hc => ?_)
    · rw [if_pos hc] at h
      refine j_aload_n hX 0 dX9_safe_21 rfl rfl ?_
      refine j_getS (k := 5) hX hfl cbX9 ty0 (by decide) rfl wd409 rfl sb0_5 dX9_safe_22 ?_
      obtain ⟨x3, h1, h⟩ := bs h
      refine j_callVL hX mwX3_unharmed miX3_unharmed wd904 cbX3 ty38 hyX3_unharmed (by omega) (by decide) ⟨Nat.zero_le _, Nat.zero_le _⟩ dX9_safe_25 (s_X3_unharmed hfl hE h1) npX3_unharmed rfl (Nat.le_of_ble_eq_true rfl) ?_
      refine j_aload_n hX 0 dX9_safe_28 rfl rfl ?_
      refine j_getS (k := 5) hX hfl cbX9 ty0 (by decide) rfl wd409 rfl sb0_5 dX9_safe_29 ?_
      obtain ⟨x4, h1, h⟩ := bs h
      refine j_callVL hX mwX3_allOdds miX3_allOdds wd920 cbX3 ty38 hyX3_allOdds (by omega) (by decide) ⟨Nat.zero_le _, Nat.zero_le _⟩ dX9_safe_32 (s_X3_allOdds hfl hE h1) npX3_allOdds rfl (Nat.le_of_ble_eq_true rfl) ?_
      refine j_iload_n hX 2 dX9_safe_35 rfl rfl ?_
      obtain ⟨x5, h1, h⟩ := bs h
      refine j_callSL hX mwX9_inLowest msX9_inLowest wd888 hyX9_inLowest (by omega) (by decide) ⟨Nat.zero_le _, Nat.zero_le _⟩ dX9_safe_36 (s_X9_inLowest hfl h1) npX9_inLowest rfl (Nat.le_of_ble_eq_true rfl) ?_
      cases h
      exact j_lret hX hR dX9_safe_39
    · rw [if_neg hc] at h
      refine j_ldc2 (z := (-9223372036854775808)) hX wd868 (by decide) dX9_safe_17 (rcl rfl) ?_
      cases h
      exact j_lret hX hR dX9_safe_20
theorem s_X9_maySend {g : G0} {B : Nat → Nat} {n : Nat} {E : Mem → Mem} {a1 : Int} {a2 : Int} {a3 : Int} {S : Mem} {r : Int} (hfl : g.2.2.2.2 = true) (hE : Lens E PC) (h : g_X9_maySend a1 a2 a3 S = some r) : Cn g B n yX9_maySend cX9_maySend 4 (some .boolean) 3 [vR 0, vI (a1), vI (a2), vI (a3)] (E S) (QcI g B n r (E S)) := by
  refine Cn.of (by decide +kernel) (Nat.le_of_ble_eq_true rfl) (fun X hg hnl hX hR => ?_)
  subst hg
  have hX : Ctx X cX9_maySend "TelegramFeelings" 3 := hX
  unfold g_X9_maySend at h
  show JW X B n 0 0 0 [(0, vR 0), (1, vI (a1)), (2, vI (a2)), (3, vI (a3))] [] (E S) (QM X (QcI (gX X) B n r (E S)))
  refine j_iload_n hX 2 dX9_maySend_0 rfl rfl ?_
  refine j_aload_n hX 0 dX9_maySend_1 rfl rfl ?_
  refine j_getS (k := 0) hX hfl cbX9 ty0 (by decide) rfl wd404 rfl sb0_0 dX9_maySend_2 ?_
  refine j_iload_n hX 1 dX9_maySend_5 rfl rfl ?_
  refine j_bipush hX dX9_maySend_6 (rc rfl) (by decide) ?_
  obtain ⟨x1, h1, h⟩ := bs h
  refine j_callVI hX mwX5_value miX5_value wd497 cbX5 ty1 hyX5_value (by omega) (by decide) ⟨Nat.zero_le _, Nat.zero_le _⟩ dX9_maySend_8 (s_X5_value hfl hE h1) npX5_value rfl (Nat.le_of_ble_eq_true rfl) ?_
  refine j_iconst hX dX9_maySend_11 (rc rfl) ?_
  refine j_ixor hX dX9_maySend_12 ?_
  refine j_iand hX dX9_maySend_13 ?_
  refine j_if_ne hX (tgt := 34) dX9_maySend_14 (by decide) (fun hc => ?_) (fun hc => ?_)
  · rw [if_neg hc] at h
    refine j_iconst hX dX9_maySend_34 (rc rfl) ?_
    cases h
    exact j_zret hX hR (Or.inl rfl) dX9_maySend_35
  · rw [if_pos hc] at h
    refine j_iload_n hX 3 dX9_maySend_17 rfl rfl ?_
    refine j_aload_n hX 0 dX9_maySend_18 rfl rfl ?_
    refine j_getS (k := 0) hX hfl cbX9 ty0 (by decide) rfl wd404 rfl sb0_0 dX9_maySend_19 ?_
    refine j_iload_n hX 1 dX9_maySend_22 rfl rfl ?_
    refine j_iconst hX dX9_maySend_23 (rc rfl) ?_
    obtain ⟨x2, h1, h⟩ := bs h
    refine j_callVI hX mwX5_value miX5_value wd497 cbX5 ty1 hyX5_value (by omega) (by decide) ⟨Nat.zero_le _, Nat.zero_le _⟩ dX9_maySend_24 (s_X5_value hfl hE h1) npX5_value rfl (Nat.le_of_ble_eq_true rfl) ?_
    refine j_icmp_gt hX (tgt := 34) dX9_maySend_27 (by decide) (fun hc => ?_) (fun hc => ?_)
    · rw [if_pos hc] at h
      refine j_iconst hX dX9_maySend_34 (rc rfl) ?_
      cases h
      exact j_zret hX hR (Or.inl rfl) dX9_maySend_35
    · rw [if_neg hc] at h
      refine j_iconst hX dX9_maySend_30 (rc rfl) ?_
      refine j_goto hX (tgt := 35) dX9_maySend_31 (by decide) ?_
      cases h
      exact j_zret hX hR (Or.inr rfl) dX9_maySend_35
theorem sl_X9_unsigned_53 {X : K0} {B : Nat → Nat} {n : Nat} {E : Mem → Mem} {r : Int} {S' : Mem} (hX : Ctx X cX9_unsigned "TelegramFeelings" 5) (hR : CR X (some .int)) (hfl : (gX X).2.2.2.2 = true) (hnl : X.2.2.2.2.2.2.2.2.2.2.2.2.2.2 = 9) (hE : Lens E PC) {k125 : Int → Int → Mem → Option (Int × Mem)} {v2 : Int} {v4 : Int} {v5 : Int} (K125 : ∀ (v6 : Int) (v7 : Int) (S : Mem), k125 v6 v7 S = some (r, S') → JW X B n 0 0 125 [(2, vI (v2)), (6, vI (v6)), (7, vI (v7))] [] (E S) (QM X (QcI (gX X) B n r (E S')))) : ∀ (fu : Nat) (v6 : Int) (v7 : Int) (v8 : Int) (S : Mem), g_X9_unsigned_L53 k125 v2 v4 v5 fu v6 v7 v8 S = some (r, S') → JW X B n 0 0 53 [(0, vR 0), (2, vI (v2)), (4, vI (v4)), (5, vI (v5)), (6, vI (v6)), (7, vI (v7)), (8, vI (v8))] [] (E S) (QM X (QcI (gX X) B n r (E S'))) := by
  intro fu
  induction fu with
  | zero =>
    intro v6 v7 v8 S h
    rw [g_X9_unsigned_L53] at h
    cases h
  | succ fu ih =>
    intro v6 v7 v8 S h
    rw [g_X9_unsigned_L53] at h
    refine j_iload hX 6 dX9_unsigned_53 rfl ?_
    refine j_aload_n hX 0 dX9_unsigned_55 rfl rfl ?_
    refine j_getS (k := 0) hX hfl cbX9 ty0 (by decide) rfl wd404 rfl sb0_0 dX9_unsigned_56 ?_
    refine j_getI (k := 2) hX hE cbX5 ty1 pc1 (by decide) rfl wd147 rfl dX9_unsigned_59 ?_
    refine j_icmp_ge hX (tgt := 125) dX9_unsigned_62 (by decide) (fun hc => ?_) (fun hc => ?_)
    · rw [if_pos hc] at h
      refine j_sub [1, 4, 5] rfl ?_
      exact K125 _ _ _ h
    · rw [if_neg hc] at h
      refine j_aload_n hX 0 dX9_unsigned_65 rfl rfl ?_
      refine j_iload hX 6 dX9_unsigned_66 rfl ?_
      refine j_iload hX 2 dX9_unsigned_68 rfl ?_
      refine j_iload hX 3 dX9_unsigned_70 rfl ?_
      obtain ⟨x4, h1, h⟩ := bs h
      refine j_callVI hX mwX9_maySend miX9_maySend wd929 cbX9 ty0 hyX9_maySend (by omega) (by decide) ⟨Nat.zero_le _, Nat.zero_le _⟩ dX9_unsigned_72 (s_X9_maySend hfl hE h1) npX9_maySend rfl (Nat.le_of_ble_eq_true rfl) ?_
      refine j_if_eq hX (tgt := 119) dX9_unsigned_75 (by decide) (fun hc => ?_) (fun hc => ?_)
      · rw [if_pos hc] at h
        refine j_iinc (L' := [(8, vI (w32 (v8 + 1))), (0, vR 0), (2, vI (v2)), (4, vI (v4)), (5, vI (v5)), (6, vI (v6)), (7, vI (v7))]) hX 6 dX9_unsigned_119 hnl (by decide) rfl rfl ?_
        refine j_goto hX (tgt := 53) dX9_unsigned_122 (by decide) ?_
        refine j_sub [1, 2, 3, 4, 5, 6, 0] rfl ?_
        exact ih _ _ _ _ h
      · rw [if_neg hc] at h
        refine j_iload hX 4 dX9_unsigned_78 rfl ?_
        refine j_iconst hX dX9_unsigned_80 (rc rfl) ?_
        refine j_iload hX 6 dX9_unsigned_81 rfl ?_
        refine j_ishl hX dX9_unsigned_83 ?_
        refine j_ior hX dX9_unsigned_84 ?_
        refine j_istore (L' := [(6, vI (o_or v6 (o_shl 1 v8))), (0, vR 0), (2, vI (v2)), (4, vI (v4)), (5, vI (v5)), (7, vI (v7)), (8, vI (v8))]) hX dX9_unsigned_85 hnl (by decide) rfl ?_
        refine j_iload hX 5 dX9_unsigned_87 rfl ?_
        refine j_if_lt hX (tgt := 115) dX9_unsigned_89 (by decide) (fun hc => ?_) (fun hc => ?_)
        · rw [if_pos hc] at h
          refine j_iload hX 6 dX9_unsigned_115 rfl ?_
          refine j_istore (L' := [(7, vI (v8)), (6, vI (o_or v6 (o_shl 1 v8))), (0, vR 0), (2, vI (v2)), (4, vI (v4)), (5, vI (v5)), (8, vI (v8))]) hX dX9_unsigned_117 hnl (by decide) rfl ?_
          refine j_iinc (L' := [(8, vI (w32 (v8 + 1))), (7, vI (v8)), (6, vI (o_or v6 (o_shl 1 v8))), (0, vR 0), (2, vI (v2)), (4, vI (v4)), (5, vI (v5))]) hX 6 dX9_unsigned_119 hnl (by decide) rfl rfl ?_
          refine j_goto hX (tgt := 53) dX9_unsigned_122 (by decide) ?_
          refine j_sub [3, 4, 5, 6, 2, 1, 0] rfl ?_
          exact ih _ _ _ _ h
        · rw [if_neg hc] at h
          refine j_aload_n hX 1 dX9_unsigned_92 rfl rfl ?_
          refine j_getS (k := 0) hX hfl cbX9 ty0 (by decide) rfl wd404 rfl sb0_0 dX9_unsigned_93 ?_
          refine j_iload hX 6 dX9_unsigned_96 rfl ?_
          refine j_iconst hX dX9_unsigned_98 (rc rfl) ?_
          obtain ⟨x5, h1, h⟩ := bs h
          refine j_callVI hX mwX5_value miX5_value wd497 cbX5 ty1 hyX5_value (by omega) (by decide) ⟨Nat.zero_le _, Nat.zero_le _⟩ dX9_unsigned_99 (s_X5_value hfl hE h1) npX5_value rfl (Nat.le_of_ble_eq_true rfl) ?_
          refine j_aload_n hX 1 dX9_unsigned_102 rfl rfl ?_
          refine j_getS (k := 0) hX hfl cbX9 ty0 (by decide) rfl wd404 rfl sb0_0 dX9_unsigned_103 ?_
          refine j_iload hX 5 dX9_unsigned_106 rfl ?_
          refine j_iconst hX dX9_unsigned_108 (rc rfl) ?_
          obtain ⟨x6, h1, h⟩ := bs h
          refine j_callVI hX mwX5_value miX5_value wd497 cbX5 ty1 hyX5_value (by omega) (by decide) ⟨Nat.zero_le _, Nat.zero_le _⟩ dX9_unsigned_109 (s_X5_value hfl hE h1) npX5_value rfl (Nat.le_of_ble_eq_true rfl) ?_
          refine j_icmp_le hX (tgt := 119) dX9_unsigned_112 (by decide) (fun hc => ?_) (fun hc => ?_)
          · rw [if_pos hc] at h
            refine j_iinc (L' := [(8, vI (w32 (v8 + 1))), (6, vI (o_or v6 (o_shl 1 v8))), (0, vR 0), (2, vI (v2)), (4, vI (v4)), (5, vI (v5)), (7, vI (v7))]) hX 6 dX9_unsigned_119 hnl (by decide) rfl rfl ?_
            refine j_goto hX (tgt := 53) dX9_unsigned_122 (by decide) ?_
            refine j_sub [2, 3, 4, 5, 1, 6, 0] rfl ?_
            exact ih _ _ _ _ h
          · rw [if_neg hc] at h
            refine j_iload hX 6 dX9_unsigned_115 rfl ?_
            refine j_istore (L' := [(7, vI (v8)), (6, vI (o_or v6 (o_shl 1 v8))), (0, vR 0), (2, vI (v2)), (4, vI (v4)), (5, vI (v5)), (8, vI (v8))]) hX dX9_unsigned_117 hnl (by decide) rfl ?_
            refine j_iinc (L' := [(8, vI (w32 (v8 + 1))), (7, vI (v8)), (6, vI (o_or v6 (o_shl 1 v8))), (0, vR 0), (2, vI (v2)), (4, vI (v4)), (5, vI (v5))]) hX 6 dX9_unsigned_119 hnl (by decide) rfl rfl ?_
            refine j_goto hX (tgt := 53) dX9_unsigned_122 (by decide) ?_
            refine j_sub [3, 4, 5, 6, 2, 1, 0] rfl ?_
            exact ih _ _ _ _ h
theorem sj_X9_unsigned_18 {X : K0} {B : Nat → Nat} {n : Nat} {E : Mem → Mem} {r : Int} {S' : Mem} (hX : Ctx X cX9_unsigned "TelegramFeelings" 5) (hR : CR X (some .int)) (hfl : (gX X).2.2.2.2 = true) (hnl : X.2.2.2.2.2.2.2.2.2.2.2.2.2.2 = 9) (hE : Lens E PC)   {v2 : Int} {s0 : Int} {S : Mem} (h : g_X9_unsigned_J18 v2 s0 S = some (r, S')) : JW X B n 0 0 18 [(0, vR 0), (2, vI (v2))] [vI (s0)] (E S) (QM X (QcI (gX X) B n r (E S'))) := by
  unfold g_X9_unsigned_J18 at h
  refine j_istore_n (L' := [(3, vI (s0)), (0, vR 0), (2, vI (v2))]) hX dX9_unsigned_18 rfl hnl (by decide) rfl ?_
  refine j_iload_n hX 0 dX9_unsigned_19 rfl rfl ?_
  refine j_if_eq hX (tgt := 25) dX9_unsigned_20 (by decide) (fun hc => ?_) (fun hc => ?_)
  · rw [if_pos hc] at h
    refine j_aload_n hX 1 dX9_unsigned_25 rfl rfl ?_
    refine j_getS (k := 3) hX hfl cbX9 ty0 (by decide) rfl wd407 rfl sb0_3 dX9_unsigned_26 ?_
    obtain ⟨x1, h1, h⟩ := bs h
    refine j_callVI hX mwX8_senseOf miX8_senseOf wd709 cbX8 ty30 hyX8_senseOf (by omega) (by decide) ⟨Nat.zero_le _, Nat.zero_le _⟩ dX9_unsigned_29 (s_X8_senseOf hfl hE h1) npX8_senseOf rfl (Nat.le_of_ble_eq_true rfl) ?_
    refine j_istore (L' := [(4, vI (x1)), (3, vI (s0)), (0, vR 0), (2, vI (v2))]) hX dX9_unsigned_32 hnl (by decide) rfl ?_
    refine j_aload_n hX 2 dX9_unsigned_34 rfl rfl ?_
    refine j_getS (k := 3) hX hfl cbX9 ty0 (by decide) rfl wd407 rfl sb0_3 dX9_unsigned_35 ?_
    obtain ⟨x3, S2, h1, h⟩ := bd2_s h
    refine j_callVI hX mwX8_costs miX8_costs wd703 cbX8 ty30 hyX8_costs (by omega) (by decide) ⟨Nat.zero_le _, Nat.zero_le _⟩ dX9_unsigned_38 (s_X8_costs hfl hE h1) npX8_costs rfl (Nat.le_of_ble_eq_true rfl) ?_
    refine j_istore (L' := [(5, vI (x3)), (4, vI (x1)), (3, vI (s0)), (0, vR 0), (2, vI (v2))]) hX dX9_unsigned_41 hnl (by decide) rfl ?_
    refine j_iconst hX dX9_unsigned_43 (rc rfl) ?_
    refine j_istore (L' := [(6, vI (0)), (5, vI (x3)), (4, vI (x1)), (3, vI (s0)), (0, vR 0), (2, vI (v2))]) hX dX9_unsigned_44 hnl (by decide) rfl ?_
    refine j_bipush hX dX9_unsigned_46 (rc rfl) (by decide) ?_
    refine j_istore (L' := [(7, vI ((-2))), (6, vI (0)), (5, vI (x3)), (4, vI (x1)), (3, vI (s0)), (0, vR 0), (2, vI (v2))]) hX dX9_unsigned_48 hnl (by decide) rfl ?_
    refine j_iconst hX dX9_unsigned_50 (rc rfl) ?_
    refine j_istore (L' := [(8, vI (0)), (7, vI ((-2))), (6, vI (0)), (5, vI (x3)), (4, vI (x1)), (3, vI (s0)), (0, vR 0), (2, vI (v2))]) hX dX9_unsigned_51 hnl (by decide) rfl ?_
    refine j_sub [6, 7, 4, 3, 2, 1, 0] rfl ?_
    refine sl_X9_unsigned_53 hX hR hfl hnl hE (fun y8 y9 S7 h => ?_) _ _ _ _ _ h
    refine j_iload_n hX 0 dX9_unsigned_125 rfl rfl ?_
    refine j_if_ne hX (tgt := 134) dX9_unsigned_126 (by decide) (fun hc => ?_) (fun hc => ?_)
    · rw [if_neg hc] at h
      refine j_iload hX 2 dX9_unsigned_134 rfl ?_
      cases h
      exact j_iret hX hR dX9_unsigned_136
    · rw [if_pos hc] at h
      refine j_iload hX 1 dX9_unsigned_129 rfl ?_
      refine j_goto hX (tgt := 136) dX9_unsigned_131 (by decide) ?_
      cases h
      exact j_iret hX hR dX9_unsigned_136
  · rw [if_neg hc] at h
    refine j_iload_n hX 0 dX9_unsigned_23 rfl rfl ?_
    cases h
    exact j_iret hX hR dX9_unsigned_24
theorem s_X9_unsigned {g : G0} {B : Nat → Nat} {n : Nat} {E : Mem → Mem} {a1 : Int} {a2 : Int} {S : Mem} {r : Int} {S' : Mem} (hfl : g.2.2.2.2 = true) (hE : Lens E PC) (h : g_X9_unsigned a1 a2 S = some (r, S')) : Cn g B n yX9_unsigned cX9_unsigned 9 (some .int) 5 [vR 0, vI (a1), vI (a2)] (E S) (QcI g B n r (E S')) := by
  refine Cn.of (by decide +kernel) (Nat.le_of_ble_eq_true rfl) (fun X hg hnl hX hR => ?_)
  subst hg
  have hX : Ctx X cX9_unsigned "TelegramFeelings" 5 := hX
  unfold g_X9_unsigned at h
  show JW X B n 0 0 0 [(0, vR 0), (1, vI (a1)), (2, vI (a2))] [] (E S) (QM X (QcI (gX X) B n r (E S')))
  refine j_iload_n hX 2 dX9_unsigned_0 rfl rfl ?_
  refine j_iconst hX dX9_unsigned_1 (rc rfl) ?_
  refine j_iconst hX dX9_unsigned_2 (rc rfl) ?_
  refine j_callSI hX mwX9_between msX9_between wd463 hyX9_between (by omega) (by decide) ⟨Nat.zero_le _, Nat.zero_le _⟩ dX9_unsigned_3 (s_X9_between hfl rfl) npX9_between rfl (Nat.le_of_ble_eq_true rfl) ?_
  refine j_if_eq hX (tgt := 17) dX9_unsigned_6 (by decide) (fun hc => ?_) (fun hc => ?_)
  · rw [if_pos hc] at h
    refine j_iconst hX dX9_unsigned_17 (rc rfl) ?_
    refine j_sub [0, 2] rfl ?_
    exact sj_X9_unsigned_18 hX hR hfl hnl hE  h
  · rw [if_neg hc] at h
    refine j_aload_n hX 0 dX9_unsigned_9 rfl rfl ?_
    refine j_iload_n hX 1 dX9_unsigned_10 rfl rfl ?_
    obtain ⟨x11, S10, h1, h⟩ := bd2_s h
    refine j_callVI hX mwX9_opened miX9_opened wd691 cbX9 ty0 hyX9_opened (by omega) (by decide) ⟨Nat.zero_le _, Nat.zero_le _⟩ dX9_unsigned_11 (s_X9_opened hfl hE h1) npX9_opened rfl (Nat.le_of_ble_eq_true rfl) ?_
    refine j_goto hX (tgt := 18) dX9_unsigned_14 (by decide) ?_
    refine j_sub [0, 2] rfl ?_
    exact sj_X9_unsigned_18 hX hR hfl hnl hE  h
theorem s_X9_shareOf {g : G0} {B : Nat → Nat} {n : Nat} {E : Mem → Mem} {a1 : Int} {a2 : Int} {a3 : Int} {S : Mem} {r : Int} (hfl : g.2.2.2.2 = true) (hE : Lens E PC) (h : g_X9_shareOf a1 a2 a3 S = some r) : Cn g B n yX9_shareOf cX9_shareOf 4 (some .int) 3 [vR 0, vI (a1), vI (a2), vI (a3)] (E S) (QcI g B n r (E S)) := by
  refine Cn.of (by decide +kernel) (Nat.le_of_ble_eq_true rfl) (fun X hg hnl hX hR => ?_)
  subst hg
  have hX : Ctx X cX9_shareOf "TelegramFeelings" 3 := hX
  unfold g_X9_shareOf at h
  show JW X B n 0 0 0 [(0, vR 0), (1, vI (a1)), (2, vI (a2)), (3, vI (a3))] [] (E S) (QM X (QcI (gX X) B n r (E S)))
  refine j_iload_n hX 3 dX9_shareOf_0 rfl rfl ?_
  refine j_if_le hX (tgt := 20) dX9_shareOf_1 (by decide) (fun hc => ?_) (fun hc => ?_)
  · rw [if_pos hc] at h
    refine j_iconst hX dX9_shareOf_20 (rc rfl) ?_
    cases h
    exact j_iret hX hR dX9_shareOf_21
  · rw [if_neg hc] at h
    refine j_iload_n hX 2 dX9_shareOf_4 rfl rfl ?_
    refine j_aload_n hX 0 dX9_shareOf_5 rfl rfl ?_
    refine j_getS (k := 0) hX hfl cbX9 ty0 (by decide) rfl wd404 rfl sb0_0 dX9_shareOf_6 ?_
    refine j_iload_n hX 1 dX9_shareOf_9 rfl rfl ?_
    refine j_iconst hX dX9_shareOf_10 (rc rfl) ?_
    obtain ⟨x1, h1, h⟩ := bs h
    refine j_callVI hX mwX5_value miX5_value wd497 cbX5 ty1 hyX5_value (by omega) (by decide) ⟨Nat.zero_le _, Nat.zero_le _⟩ dX9_shareOf_11 (s_X5_value hfl hE h1) npX5_value rfl (Nat.le_of_ble_eq_true rfl) ?_
    refine j_imul hX dX9_shareOf_14 ?_
    refine j_iload_n hX 3 dX9_shareOf_15 rfl rfl ?_
    obtain ⟨hz, h⟩ := chk_s h
    refine j_idiv hX dX9_shareOf_16 hz ?_
    refine j_goto hX (tgt := 21) dX9_shareOf_17 (by decide) ?_
    cases h
    exact j_iret hX hR dX9_shareOf_21
theorem sl_X9_club_50 {X : K0} {B : Nat → Nat} {n : Nat} {E : Mem → Mem} {r : Int} (hX : Ctx X cX9_club "TelegramFeelings" 4) (hR : CR X (some .int)) (hfl : (gX X).2.2.2.2 = true) (hnl : X.2.2.2.2.2.2.2.2.2.2.2.2.2.2 = 8) (hE : Lens E PC) {k96 : Int → Option Int} {v1 : Int} {v2 : Int} {v3 : Int} {S : Mem} (K96 : ∀ (v4 : Int), k96 v4 = some r → JW X B n 0 0 96 [(0, vR 0), (1, vI (v1)), (2, vI (v2)), (3, vI (v3)), (4, vI (v4))] [] (E S) (QM X (QcI (gX X) B n r (E S)))) : ∀ (fu : Nat) (v4 : Int) (v5 : Int), g_X9_club_L50 k96 v1 v2 v3 S fu v4 v5 = some r → JW X B n 0 0 50 [(0, vR 0), (1, vI (v1)), (2, vI (v2)), (3, vI (v3)), (4, vI (v4)), (5, vI (v5))] [] (E S) (QM X (QcI (gX X) B n r (E S))) := by
  intro fu
  induction fu with
  | zero =>
    intro v4 v5 h
    rw [g_X9_club_L50] at h
    cases h
  | succ fu ih =>
    intro v4 v5 h
    rw [g_X9_club_L50] at h
    refine j_iload hX 5 dX9_club_50 rfl ?_
    refine j_aload_n hX 0 dX9_club_52 rfl rfl ?_
    refine j_getS (k := 0) hX hfl cbX9 ty0 (by decide) rfl wd404 rfl sb0_0 dX9_club_53 ?_
    refine j_getI (k := 2) hX hE cbX5 ty1 pc1 (by decide) rfl wd147 rfl dX9_club_56 ?_
    refine j_icmp_ge hX (tgt := 96) dX9_club_59 (by decide) (fun hc => ?_) (fun hc => ?_)
    · rw [if_pos hc] at h
      refine j_sub [0, 1, 2, 3, 4] rfl ?_
      exact K96 _ h
    · rw [if_neg hc] at h
      refine j_iload hX 4 dX9_club_62 rfl ?_
      refine j_iload_n hX 1 dX9_club_64 rfl rfl ?_
      refine j_iload hX 5 dX9_club_65 rfl ?_
      refine j_callSI hX mwX9_isIn msX9_isIn wd937 hyX9_isIn (by omega) (by decide) ⟨Nat.zero_le _, Nat.zero_le _⟩ dX9_club_67 (s_X9_isIn hfl rfl) npX9_isIn rfl (Nat.le_of_ble_eq_true rfl) ?_
      refine j_if_eq hX (tgt := 86) dX9_club_70 (by decide) (fun hc => ?_) (fun hc => ?_)
      · rw [if_pos hc] at h
        refine j_iconst hX dX9_club_86 (rc rfl) ?_
        refine j_iadd hX dX9_club_87 ?_
        refine j_istore (L' := [(4, vI (w32 (v4 + 0))), (0, vR 0), (1, vI (v1)), (2, vI (v2)), (3, vI (v3)), (5, vI (v5))]) hX dX9_club_88 hnl (by decide) rfl ?_
        refine j_iinc (L' := [(5, vI (w32 (v5 + 1))), (4, vI (w32 (v4 + 0))), (0, vR 0), (1, vI (v1)), (2, vI (v2)), (3, vI (v3))]) hX 5 dX9_club_90 hnl (by decide) rfl rfl ?_
        refine j_goto hX (tgt := 50) dX9_club_93 (by decide) ?_
        refine j_sub [2, 3, 4, 5, 1, 0] rfl ?_
        exact ih _ _ h
      · rw [if_neg hc] at h
        refine j_aload_n hX 0 dX9_club_73 rfl rfl ?_
        refine j_getS (k := 0) hX hfl cbX9 ty0 (by decide) rfl wd404 rfl sb0_0 dX9_club_74 ?_
        refine j_iload hX 5 dX9_club_77 rfl ?_
        refine j_iconst hX dX9_club_79 (rc rfl) ?_
        obtain ⟨x1, h1, h⟩ := bs h
        refine j_callVI hX mwX5_value miX5_value wd497 cbX5 ty1 hyX5_value (by omega) (by decide) ⟨Nat.zero_le _, Nat.zero_le _⟩ dX9_club_80 (s_X5_value hfl hE h1) npX5_value rfl (Nat.le_of_ble_eq_true rfl) ?_
        refine j_goto hX (tgt := 87) dX9_club_83 (by decide) ?_
        refine j_iadd hX dX9_club_87 ?_
        refine j_istore (L' := [(4, vI (w32 (v4 + x1))), (0, vR 0), (1, vI (v1)), (2, vI (v2)), (3, vI (v3)), (5, vI (v5))]) hX dX9_club_88 hnl (by decide) rfl ?_
        refine j_iinc (L' := [(5, vI (w32 (v5 + 1))), (4, vI (w32 (v4 + x1))), (0, vR 0), (1, vI (v1)), (2, vI (v2)), (3, vI (v3))]) hX 5 dX9_club_90 hnl (by decide) rfl rfl ?_
        refine j_goto hX (tgt := 50) dX9_club_93 (by decide) ?_
        refine j_sub [2, 3, 4, 5, 1, 0] rfl ?_
        exact ih _ _ h
theorem sj_X9_club_158 {X : K0} {B : Nat → Nat} {n : Nat} {E : Mem → Mem} {r : Int} (hX : Ctx X cX9_club "TelegramFeelings" 4) (hR : CR X (some .int)) (hfl : (gX X).2.2.2.2 = true) (hnl : X.2.2.2.2.2.2.2.2.2.2.2.2.2.2 = 8) (hE : Lens E PC) {c : Int → Int → Int → Option Int}   {v1 : Int} {v2 : Int} {v3 : Int} {v4 : Int} {v6 : Int} {v7 : Int} {s0 : Int} {s1 : Int} {S : Mem} (Hc : ∀ (v5 : Int) (v6 : Int) (v7 : Int), c v5 v6 v7 = some r → JW X B n 0 0 122 [(0, vR 0), (1, vI (v1)), (2, vI (v2)), (3, vI (v3)), (4, vI (v4)), (5, vI (v5)), (6, vI (v6)), (7, vI (v7))] [] (E S) (QM X (QcI (gX X) B n r (E S)))) (h : g_X9_club_J158 c v1 v2 v3 v4 v6 v7 s0 s1 S = some r) : JW X B n 0 0 158 [(0, vR 0), (1, vI (v1)), (2, vI (v2)), (3, vI (v3)), (4, vI (v4)), (6, vI (v6)), (7, vI (v7))] [vI (s1), vI (s0)] (E S) (QM X (QcI (gX X) B n r (E S))) := by
  unfold g_X9_club_J158 at h
  refine j_isub hX dX9_club_158 ?_
  refine j_istore (L' := [(5, vI (w32 (s0 - s1))), (0, vR 0), (1, vI (v1)), (2, vI (v2)), (3, vI (v3)), (4, vI (v4)), (6, vI (v6)), (7, vI (v7))]) hX dX9_club_159 hnl (by decide) rfl ?_
  refine j_iload hX 6 dX9_club_161 rfl ?_
  refine j_iload hX 7 dX9_club_163 rfl ?_
  refine j_iload_n hX 4 dX9_club_165 rfl rfl ?_
  refine j_icmp_ge hX (tgt := 182) dX9_club_166 (by decide) (fun hc => ?_) (fun hc => ?_)
  · rw [if_pos hc] at h
    refine j_iconst hX dX9_club_182 (rc rfl) ?_
    refine j_iadd hX dX9_club_183 ?_
    refine j_istore (L' := [(6, vI (w32 (v6 + 0))), (5, vI (w32 (s0 - s1))), (0, vR 0), (1, vI (v1)), (2, vI (v2)), (3, vI (v3)), (4, vI (v4)), (7, vI (v7))]) hX dX9_club_184 hnl (by decide) rfl ?_
    refine j_iinc (L' := [(7, vI (w32 (v7 + 1))), (6, vI (w32 (v6 + 0))), (5, vI (w32 (s0 - s1))), (0, vR 0), (1, vI (v1)), (2, vI (v2)), (3, vI (v3)), (4, vI (v4))]) hX 7 dX9_club_186 hnl (by decide) rfl rfl ?_
    refine j_goto hX (tgt := 122) dX9_club_189 (by decide) ?_
    refine j_sub [3, 4, 5, 6, 7, 2, 1, 0] rfl ?_
    exact Hc _ _ _ h
  · rw [if_neg hc] at h
    refine j_iload_n hX 2 dX9_club_169 rfl rfl ?_
    refine j_iload hX 7 dX9_club_170 rfl ?_
    refine j_callSI hX mwX9_isIn msX9_isIn wd937 hyX9_isIn (by omega) (by decide) ⟨Nat.zero_le _, Nat.zero_le _⟩ dX9_club_172 (s_X9_isIn hfl rfl) npX9_isIn rfl (Nat.le_of_ble_eq_true rfl) ?_
    refine j_if_eq hX (tgt := 182) dX9_club_175 (by decide) (fun hc => ?_) (fun hc => ?_)
    · rw [if_pos hc] at h
      refine j_iconst hX dX9_club_182 (rc rfl) ?_
      refine j_iadd hX dX9_club_183 ?_
      refine j_istore (L' := [(6, vI (w32 (v6 + 0))), (5, vI (w32 (s0 - s1))), (0, vR 0), (1, vI (v1)), (2, vI (v2)), (3, vI (v3)), (4, vI (v4)), (7, vI (v7))]) hX dX9_club_184 hnl (by decide) rfl ?_
      refine j_iinc (L' := [(7, vI (w32 (v7 + 1))), (6, vI (w32 (v6 + 0))), (5, vI (w32 (s0 - s1))), (0, vR 0), (1, vI (v1)), (2, vI (v2)), (3, vI (v3)), (4, vI (v4))]) hX 7 dX9_club_186 hnl (by decide) rfl rfl ?_
      refine j_goto hX (tgt := 122) dX9_club_189 (by decide) ?_
      refine j_sub [3, 4, 5, 6, 7, 2, 1, 0] rfl ?_
      exact Hc _ _ _ h
    · rw [if_neg hc] at h
      refine j_iconst hX dX9_club_178 (rc rfl) ?_
      refine j_goto hX (tgt := 183) dX9_club_179 (by decide) ?_
      refine j_iadd hX dX9_club_183 ?_
      refine j_istore (L' := [(6, vI (w32 (v6 + 1))), (5, vI (w32 (s0 - s1))), (0, vR 0), (1, vI (v1)), (2, vI (v2)), (3, vI (v3)), (4, vI (v4)), (7, vI (v7))]) hX dX9_club_184 hnl (by decide) rfl ?_
      refine j_iinc (L' := [(7, vI (w32 (v7 + 1))), (6, vI (w32 (v6 + 1))), (5, vI (w32 (s0 - s1))), (0, vR 0), (1, vI (v1)), (2, vI (v2)), (3, vI (v3)), (4, vI (v4))]) hX 7 dX9_club_186 hnl (by decide) rfl rfl ?_
      refine j_goto hX (tgt := 122) dX9_club_189 (by decide) ?_
      refine j_sub [3, 4, 5, 6, 7, 2, 1, 0] rfl ?_
      exact Hc _ _ _ h
theorem sl_X9_club_122 {X : K0} {B : Nat → Nat} {n : Nat} {E : Mem → Mem} {r : Int} (hX : Ctx X cX9_club "TelegramFeelings" 4) (hR : CR X (some .int)) (hfl : (gX X).2.2.2.2 = true) (hnl : X.2.2.2.2.2.2.2.2.2.2.2.2.2.2 = 8) (hE : Lens E PC) {k192 : Int → Int → Option Int} {v1 : Int} {v2 : Int} {v3 : Int} {v4 : Int} {S : Mem} (K192 : ∀ (v5 : Int) (v6 : Int), k192 v5 v6 = some r → JW X B n 0 0 192 [(0, vR 0), (2, vI (v2)), (3, vI (v3)), (4, vI (v4)), (5, vI (v5)), (6, vI (v6))] [] (E S) (QM X (QcI (gX X) B n r (E S)))) : ∀ (fu : Nat) (v5 : Int) (v6 : Int) (v7 : Int), g_X9_club_L122 k192 v1 v2 v3 v4 S fu v5 v6 v7 = some r → JW X B n 0 0 122 [(0, vR 0), (1, vI (v1)), (2, vI (v2)), (3, vI (v3)), (4, vI (v4)), (5, vI (v5)), (6, vI (v6)), (7, vI (v7))] [] (E S) (QM X (QcI (gX X) B n r (E S))) := by
  intro fu
  induction fu with
  | zero =>
    intro v5 v6 v7 h
    rw [g_X9_club_L122] at h
    cases h
  | succ fu ih =>
    intro v5 v6 v7 h
    rw [g_X9_club_L122] at h
    refine j_iload hX 7 dX9_club_122 rfl ?_
    refine j_aload_n hX 0 dX9_club_124 rfl rfl ?_
    refine j_getS (k := 0) hX hfl cbX9 ty0 (by decide) rfl wd404 rfl sb0_0 dX9_club_125 ?_
    refine j_getI (k := 2) hX hE cbX5 ty1 pc1 (by decide) rfl wd147 rfl dX9_club_128 ?_
    refine j_icmp_ge hX (tgt := 192) dX9_club_131 (by decide) (fun hc => ?_) (fun hc => ?_)
    · rw [if_pos hc] at h
      refine j_sub [0, 2, 3, 4, 5, 6] rfl ?_
      exact K192 _ _ h
    · rw [if_neg hc] at h
      refine j_iload hX 5 dX9_club_134 rfl ?_
      refine j_iload_n hX 1 dX9_club_136 rfl rfl ?_
      refine j_iload hX 7 dX9_club_137 rfl ?_
      refine j_callSI hX mwX9_isIn msX9_isIn wd937 hyX9_isIn (by omega) (by decide) ⟨Nat.zero_le _, Nat.zero_le _⟩ dX9_club_139 (s_X9_isIn hfl rfl) npX9_isIn rfl (Nat.le_of_ble_eq_true rfl) ?_
      refine j_if_eq hX (tgt := 157) dX9_club_142 (by decide) (fun hc => ?_) (fun hc => ?_)
      · rw [if_pos hc] at h
        refine j_iconst hX dX9_club_157 (rc rfl) ?_
        refine j_sub [0, 1, 2, 3, 4, 6, 7] rfl ?_
        exact sj_X9_club_158 hX hR hfl hnl hE ih  h
      · rw [if_neg hc] at h
        refine j_aload_n hX 0 dX9_club_145 rfl rfl ?_
        refine j_iload hX 7 dX9_club_146 rfl ?_
        refine j_iload_n hX 2 dX9_club_148 rfl rfl ?_
        refine j_iload hX 4 dX9_club_149 rfl ?_
        obtain ⟨x3, h1, h⟩ := bs h
        refine j_callVI hX mwX9_shareOf miX9_shareOf wd938 cbX9 ty0 hyX9_shareOf (by omega) (by decide) ⟨Nat.zero_le _, Nat.zero_le _⟩ dX9_club_151 (s_X9_shareOf hfl hE h1) npX9_shareOf rfl (Nat.le_of_ble_eq_true rfl) ?_
        refine j_goto hX (tgt := 158) dX9_club_154 (by decide) ?_
        refine j_sub [0, 1, 2, 3, 4, 6, 7] rfl ?_
        exact sj_X9_club_158 hX hR hfl hnl hE ih  h
theorem s_X9_club {g : G0} {B : Nat → Nat} {n : Nat} {E : Mem → Mem} {a1 : Int} {a2 : Int} {a3 : Int} {S : Mem} {r : Int} (hfl : g.2.2.2.2 = true) (hE : Lens E PC) (h : g_X9_club a1 a2 a3 S = some r) : Cn g B n yX9_club cX9_club 8 (some .int) 4 [vR 0, vI (a1), vI (a2), vI (a3)] (E S) (QcI g B n r (E S)) := by
  refine Cn.of (by decide +kernel) (Nat.le_of_ble_eq_true rfl) (fun X hg hnl hX hR => ?_)
  subst hg
  have hX : Ctx X cX9_club "TelegramFeelings" 4 := hX
  unfold g_X9_club at h
  show JW X B n 0 0 0 [(0, vR 0), (1, vI (a1)), (2, vI (a2)), (3, vI (a3))] [] (E S) (QM X (QcI (gX X) B n r (E S)))
  refine j_iload_n hX 1 dX9_club_0 rfl rfl ?_
  refine j_iconst hX dX9_club_1 (rc rfl) ?_
  refine j_iconst hX dX9_club_2 (rc rfl) ?_
  refine j_aload_n hX 0 dX9_club_3 rfl rfl ?_
  refine j_getS (k := 0) hX hfl cbX9 ty0 (by decide) rfl wd404 rfl sb0_0 dX9_club_4 ?_
  refine j_getI (k := 2) hX hE cbX5 ty1 pc1 (by decide) rfl wd147 rfl dX9_club_7 ?_
  refine j_ishl hX dX9_club_10 ?_
  refine j_iconst hX dX9_club_11 (rc rfl) ?_
  refine j_isub hX dX9_club_12 ?_
  refine j_callSI hX mwX9_between msX9_between wd463 hyX9_between (by omega) (by decide) ⟨Nat.zero_le _, Nat.zero_le _⟩ dX9_club_13 (s_X9_between hfl rfl) npX9_between rfl (Nat.le_of_ble_eq_true rfl) ?_
  refine j_if_eq hX (tgt := 42) dX9_club_16 (by decide) (fun hc => ?_) (fun hc => ?_)
  · rw [if_pos hc] at h
    refine j_iconst hX dX9_club_42 (rc rfl) ?_
    cases h
    exact j_iret hX hR dX9_club_43
  · rw [if_neg hc] at h
    refine j_iload_n hX 2 dX9_club_19 rfl rfl ?_
    refine j_iconst hX dX9_club_20 (rc rfl) ?_
    refine j_sipush hX dX9_club_21 (rc rfl) (by decide) ?_
    refine j_callSI hX mwX9_between msX9_between wd463 hyX9_between (by omega) (by decide) ⟨Nat.zero_le _, Nat.zero_le _⟩ dX9_club_24 (s_X9_between hfl rfl) npX9_between rfl (Nat.le_of_ble_eq_true rfl) ?_
    refine j_if_eq hX (tgt := 42) dX9_club_27 (by decide) (fun hc => ?_) (fun hc => ?_)
    · rw [if_pos hc] at h
      refine j_iconst hX dX9_club_42 (rc rfl) ?_
      cases h
      exact j_iret hX hR dX9_club_43
    · rw [if_neg hc] at h
      refine j_aload_n hX 0 dX9_club_30 rfl rfl ?_
      refine j_getS (k := 0) hX hfl cbX9 ty0 (by decide) rfl wd404 rfl sb0_0 dX9_club_31 ?_
      refine j_iload_n hX 3 dX9_club_34 rfl rfl ?_
      refine j_iconst hX dX9_club_35 (rc rfl) ?_
      refine j_callVI hX mwX5_has miX5_has wd496 cbX5 ty1 hyX5_has (by omega) (by decide) ⟨Nat.zero_le _, Nat.zero_le _⟩ dX9_club_36 (s_X5_has hfl hE rfl) npX5_has rfl (Nat.le_of_ble_eq_true rfl) ?_
      refine j_if_ne hX (tgt := 44) dX9_club_39 (by decide) (fun hc => ?_) (fun hc => ?_)
      · rw [if_neg hc] at h
        refine j_iconst hX dX9_club_44 (rc rfl) ?_
        refine j_istore (L' := [(4, vI (0)), (0, vR 0), (1, vI (a1)), (2, vI (a2)), (3, vI (a3))]) hX dX9_club_45 hnl (by decide) rfl ?_
        refine j_iconst hX dX9_club_47 (rc rfl) ?_
        refine j_istore (L' := [(5, vI (0)), (4, vI (0)), (0, vR 0), (1, vI (a1)), (2, vI (a2)), (3, vI (a3))]) hX dX9_club_48 hnl (by decide) rfl ?_
        refine j_sub [2, 3, 4, 5, 1, 0] rfl ?_
        refine sl_X9_club_50 hX hR hfl hnl hE (fun y2 h => ?_) _ _ _ h
        refine j_iload_n hX 1 dX9_club_96 rfl rfl ?_
        refine j_iload_n hX 3 dX9_club_97 rfl rfl ?_
        refine j_callSI hX mwX9_isIn msX9_isIn wd937 hyX9_isIn (by omega) (by decide) ⟨Nat.zero_le _, Nat.zero_le _⟩ dX9_club_98 (s_X9_isIn hfl rfl) npX9_isIn rfl (Nat.le_of_ble_eq_true rfl) ?_
        refine j_if_eq hX (tgt := 110) dX9_club_101 (by decide) (fun hc => ?_) (fun hc => ?_)
        · rw [if_pos hc] at h
          refine j_bipush hX dX9_club_110 (rc rfl) (by decide) ?_
          cases h
          exact j_iret hX hR dX9_club_112
        · rw [if_neg hc] at h
          refine j_iload hX 4 dX9_club_104 rfl ?_
          refine j_iload_n hX 2 dX9_club_106 rfl rfl ?_
          refine j_icmp_ge hX (tgt := 113) dX9_club_107 (by decide) (fun hc => ?_) (fun hc => ?_)
          · rw [if_pos hc] at h
            refine j_iload_n hX 2 dX9_club_113 rfl rfl ?_
            refine j_istore (L' := [(5, vI (a2)), (0, vR 0), (1, vI (a1)), (2, vI (a2)), (3, vI (a3)), (4, vI (y2))]) hX dX9_club_114 hnl (by decide) rfl ?_
            refine j_iconst hX dX9_club_116 (rc rfl) ?_
            refine j_istore (L' := [(6, vI (0)), (5, vI (a2)), (0, vR 0), (1, vI (a1)), (2, vI (a2)), (3, vI (a3)), (4, vI (y2))]) hX dX9_club_117 hnl (by decide) rfl ?_
            refine j_iconst hX dX9_club_119 (rc rfl) ?_
            refine j_istore (L' := [(7, vI (0)), (6, vI (0)), (5, vI (a2)), (0, vR 0), (1, vI (a1)), (2, vI (a2)), (3, vI (a3)), (4, vI (y2))]) hX dX9_club_120 hnl (by decide) rfl ?_
            refine j_sub [3, 4, 5, 6, 7, 2, 1, 0] rfl ?_
            refine sl_X9_club_122 hX hR hfl hnl hE (fun y4 y5 h => ?_) _ _ _ _ h
            refine j_aload_n hX 0 dX9_club_192 rfl rfl ?_
            refine j_iload_n hX 2 dX9_club_193 rfl rfl ?_
            refine j_iload_n hX 1 dX9_club_194 rfl rfl ?_
            refine j_iload hX 3 dX9_club_195 rfl ?_
            obtain ⟨x6, h1, h⟩ := bs h
            refine j_callVI hX mwX9_shareOf miX9_shareOf wd938 cbX9 ty0 hyX9_shareOf (by omega) (by decide) ⟨Nat.zero_le _, Nat.zero_le _⟩ dX9_club_197 (s_X9_shareOf hfl hE h1) npX9_shareOf rfl (Nat.le_of_ble_eq_true rfl) ?_
            refine j_iload hX 5 dX9_club_200 rfl ?_
            refine j_iload hX 4 dX9_club_202 rfl ?_
            refine j_icmp_ge hX (tgt := 211) dX9_club_204 (by decide) (fun hc => ?_) (fun hc => ?_)
            · rw [if_pos hc] at h
              refine j_iconst hX dX9_club_211 (rc rfl) ?_
              refine j_iadd hX dX9_club_212 ?_
              cases h
              exact j_iret hX hR dX9_club_213
            · rw [if_neg hc] at h
              refine j_iconst hX dX9_club_207 (rc rfl) ?_
              refine j_goto hX (tgt := 212) dX9_club_208 (by decide) ?_
              refine j_iadd hX dX9_club_212 ?_
              cases h
              exact j_iret hX hR dX9_club_213
          · rw [if_neg hc] at h
            refine j_bipush hX dX9_club_110 (rc rfl) (by decide) ?_
            cases h
            exact j_iret hX hR dX9_club_112
      · rw [if_pos hc] at h
        refine j_iconst hX dX9_club_42 (rc rfl) ?_
        cases h
        exact j_iret hX hR dX9_club_43
theorem sl_X9_dearest_10 {X : K0} {B : Nat → Nat} {n : Nat} {E : Mem → Mem} {r : Int} (hX : Ctx X cX9_dearest "TelegramFeelings" 3) (hR : CR X (some .int)) (hfl : (gX X).2.2.2.2 = true) (hnl : X.2.2.2.2.2.2.2.2.2.2.2.2.2.2 = 7) (hE : Lens E PC)   {S : Mem}  : ∀ (fu : Nat) (v1 : Int) (v2 : Int) (v3 : Int) (v4 : Int), g_X9_dearest_L10 S fu v1 v2 v3 v4 = some r → JW X B n 0 0 10 [(0, vR 0), (1, vI (v1)), (2, vI (v2)), (3, vI (v3)), (4, vI (v4))] [] (E S) (QM X (QcI (gX X) B n r (E S))) := by
  intro fu
  induction fu with
  | zero =>
    intro v1 v2 v3 v4 h
    rw [g_X9_dearest_L10] at h
    cases h
  | succ fu ih =>
    intro v1 v2 v3 v4 h
    rw [g_X9_dearest_L10] at h
    refine j_iload hX 4 dX9_dearest_10 rfl ?_
    refine j_aload_n hX 0 dX9_dearest_12 rfl rfl ?_
    refine j_getS (k := 0) hX hfl cbX9 ty0 (by decide) rfl wd404 rfl sb0_0 dX9_dearest_13 ?_
    refine j_getI (k := 1) hX hE cbX5 ty1 pc1 (by decide) rfl wd144 rfl dX9_dearest_16 ?_
    refine j_icmp_ge hX (tgt := 80) dX9_dearest_19 (by decide) (fun hc => ?_) (fun hc => ?_)
    · rw [if_pos hc] at h
      refine j_iload_n hX 1 dX9_dearest_80 rfl rfl ?_
      cases h
      exact j_iret hX hR dX9_dearest_81
    · rw [if_neg hc] at h
      refine j_aload_n hX 0 dX9_dearest_22 rfl rfl ?_
      refine j_getS (k := 0) hX hfl cbX9 ty0 (by decide) rfl wd404 rfl sb0_0 dX9_dearest_23 ?_
      refine j_iload hX 4 dX9_dearest_26 rfl ?_
      refine j_iconst hX dX9_dearest_28 (rc rfl) ?_
      obtain ⟨x1, h1, h⟩ := bs h
      refine j_callVI hX mwX5_value miX5_value wd497 cbX5 ty1 hyX5_value (by omega) (by decide) ⟨Nat.zero_le _, Nat.zero_le _⟩ dX9_dearest_29 (s_X5_value hfl hE h1) npX5_value rfl (Nat.le_of_ble_eq_true rfl) ?_
      refine j_istore (L' := [(5, vI (x1)), (0, vR 0), (1, vI (v1)), (2, vI (v2)), (3, vI (v3)), (4, vI (v4))]) hX dX9_dearest_32 hnl (by decide) rfl ?_
      refine j_aload_n hX 1 dX9_dearest_34 rfl rfl ?_
      refine j_getS (k := 0) hX hfl cbX9 ty0 (by decide) rfl wd404 rfl sb0_0 dX9_dearest_35 ?_
      refine j_iload hX 5 dX9_dearest_38 rfl ?_
      refine j_iconst hX dX9_dearest_40 (rc rfl) ?_
      obtain ⟨x2, h1, h⟩ := bs h
      refine j_callVI hX mwX5_value miX5_value wd497 cbX5 ty1 hyX5_value (by omega) (by decide) ⟨Nat.zero_le _, Nat.zero_le _⟩ dX9_dearest_41 (s_X5_value hfl hE h1) npX5_value rfl (Nat.le_of_ble_eq_true rfl) ?_
      refine j_callSI hX mwJ6_bitCount_0f7a4 msJ6_bitCount_0f7a4 wd807 hyJ6_bitCount_0f7a4 (by omega) (by decide) ⟨Nat.zero_le _, Nat.zero_le _⟩ dX9_dearest_44 (s_J6_bitCount_0f7a4 rfl) npJ6_bitCount_0f7a4 rfl (Nat.le_of_ble_eq_true rfl) ?_
      refine j_istore (L' := [(6, vI (g_J6_bitCount_0f7a4 x2)), (5, vI (x1)), (0, vR 0), (1, vI (v1)), (2, vI (v2)), (3, vI (v3)), (4, vI (v4))]) hX dX9_dearest_47 hnl (by decide) rfl ?_
      refine j_iload hX 0 dX9_dearest_49 rfl ?_
      refine j_if_le hX (tgt := 74) dX9_dearest_51 (by decide) (fun hc => ?_) (fun hc => ?_)
      · rw [if_pos hc] at h
        refine j_iinc (L' := [(4, vI (w32 (v4 + 1))), (6, vI (g_J6_bitCount_0f7a4 x2)), (5, vI (x1)), (0, vR 0), (1, vI (v1)), (2, vI (v2)), (3, vI (v3))]) hX 6 dX9_dearest_74 hnl (by decide) rfl rfl ?_
        refine j_goto hX (tgt := 10) dX9_dearest_77 (by decide) ?_
        refine j_sub [3, 4, 5, 6, 0] rfl ?_
        exact ih _ _ _ _ h
      · rw [if_neg hc] at h
        refine j_iload hX 1 dX9_dearest_54 rfl ?_
        refine j_iload_n hX 5 dX9_dearest_56 rfl rfl ?_
        refine j_imul hX dX9_dearest_57 ?_
        refine j_iload_n hX 4 dX9_dearest_58 rfl rfl ?_
        refine j_iload hX 0 dX9_dearest_59 rfl ?_
        refine j_imul hX dX9_dearest_61 ?_
        refine j_icmp_le hX (tgt := 74) dX9_dearest_62 (by decide) (fun hc => ?_) (fun hc => ?_)
        · rw [if_pos hc] at h
          refine j_iinc (L' := [(4, vI (w32 (v4 + 1))), (6, vI (g_J6_bitCount_0f7a4 x2)), (5, vI (x1)), (0, vR 0), (1, vI (v1)), (2, vI (v2)), (3, vI (v3))]) hX 6 dX9_dearest_74 hnl (by decide) rfl rfl ?_
          refine j_goto hX (tgt := 10) dX9_dearest_77 (by decide) ?_
          refine j_sub [3, 4, 5, 6, 0] rfl ?_
          exact ih _ _ _ _ h
        · rw [if_neg hc] at h
          refine j_iload hX 6 dX9_dearest_65 rfl ?_
          refine j_istore_n (L' := [(1, vI (v4)), (6, vI (g_J6_bitCount_0f7a4 x2)), (5, vI (x1)), (0, vR 0), (2, vI (v2)), (3, vI (v3)), (4, vI (v4))]) hX dX9_dearest_67 rfl hnl (by decide) rfl ?_
          refine j_iload hX 2 dX9_dearest_68 rfl ?_
          refine j_istore_n (L' := [(2, vI (x1)), (1, vI (v4)), (6, vI (g_J6_bitCount_0f7a4 x2)), (5, vI (x1)), (0, vR 0), (3, vI (v3)), (4, vI (v4))]) hX dX9_dearest_70 rfl hnl (by decide) rfl ?_
          refine j_iload hX 2 dX9_dearest_71 rfl ?_
          refine j_istore_n (L' := [(3, vI (g_J6_bitCount_0f7a4 x2)), (2, vI (x1)), (1, vI (v4)), (6, vI (g_J6_bitCount_0f7a4 x2)), (5, vI (x1)), (0, vR 0), (4, vI (v4))]) hX dX9_dearest_73 rfl hnl (by decide) rfl ?_
          refine j_iinc (L' := [(4, vI (w32 (v4 + 1))), (3, vI (g_J6_bitCount_0f7a4 x2)), (2, vI (x1)), (1, vI (v4)), (6, vI (g_J6_bitCount_0f7a4 x2)), (5, vI (x1)), (0, vR 0)]) hX 6 dX9_dearest_74 hnl (by decide) rfl rfl ?_
          refine j_goto hX (tgt := 10) dX9_dearest_77 (by decide) ?_
          refine j_sub [6, 3, 2, 1, 0] rfl ?_
          exact ih _ _ _ _ h
theorem s_X9_dearest {g : G0} {B : Nat → Nat} {n : Nat} {E : Mem → Mem}  {S : Mem} {r : Int} (hfl : g.2.2.2.2 = true) (hE : Lens E PC) (h : g_X9_dearest S = some r) : Cn g B n yX9_dearest cX9_dearest 7 (some .int) 3 [vR 0] (E S) (QcI g B n r (E S)) := by
  refine Cn.of (by decide +kernel) (Nat.le_of_ble_eq_true rfl) (fun X hg hnl hX hR => ?_)
  subst hg
  have hX : Ctx X cX9_dearest "TelegramFeelings" 3 := hX
  unfold g_X9_dearest at h
  show JW X B n 0 0 0 [(0, vR 0)] [] (E S) (QM X (QcI (gX X) B n r (E S)))
  refine j_bipush hX dX9_dearest_0 (rc rfl) (by decide) ?_
  refine j_istore_n (L' := [(1, vI ((-2))), (0, vR 0)]) hX dX9_dearest_2 rfl hnl (by decide) rfl ?_
  refine j_iconst hX dX9_dearest_3 (rc rfl) ?_
  refine j_istore_n (L' := [(2, vI (0)), (1, vI ((-2))), (0, vR 0)]) hX dX9_dearest_4 rfl hnl (by decide) rfl ?_
  refine j_iconst hX dX9_dearest_5 (rc rfl) ?_
  refine j_istore_n (L' := [(3, vI (1)), (2, vI (0)), (1, vI ((-2))), (0, vR 0)]) hX dX9_dearest_6 rfl hnl (by decide) rfl ?_
  refine j_iconst hX dX9_dearest_7 (rc rfl) ?_
  refine j_istore (L' := [(4, vI (0)), (3, vI (1)), (2, vI (0)), (1, vI ((-2))), (0, vR 0)]) hX dX9_dearest_8 hnl (by decide) rfl ?_
  refine j_sub [4, 3, 2, 1, 0] rfl ?_
  refine sl_X9_dearest_10 hX hR hfl hnl hE  _ _ _ _ _ h
theorem sl_X9_wordless_4 {X : K0} {B : Nat → Nat} {n : Nat} {E : Mem → Mem} {r : Int} (hX : Ctx X cX9_wordless "TelegramFeelings" 3) (hR : CR X (some .int)) (hfl : (gX X).2.2.2.2 = true) (hnl : X.2.2.2.2.2.2.2.2.2.2.2.2.2.2 = 3) (hE : Lens E PC)   {S : Mem}  : ∀ (fu : Nat) (v1 : Int) (v2 : Int), g_X9_wordless_L4 S fu v1 v2 = some r → JW X B n 0 0 4 [(0, vR 0), (1, vI (v1)), (2, vI (v2))] [] (E S) (QM X (QcI (gX X) B n r (E S))) := by
  intro fu
  induction fu with
  | zero =>
    intro v1 v2 h
    rw [g_X9_wordless_L4] at h
    cases h
  | succ fu ih =>
    intro v1 v2 h
    rw [g_X9_wordless_L4] at h
    refine j_iload_n hX 2 dX9_wordless_4 rfl rfl ?_
    refine j_aload_n hX 0 dX9_wordless_5 rfl rfl ?_
    refine j_getS (k := 0) hX hfl cbX9 ty0 (by decide) rfl wd404 rfl sb0_0 dX9_wordless_6 ?_
    refine j_getI (k := 1) hX hE cbX5 ty1 pc1 (by decide) rfl wd144 rfl dX9_wordless_9 ?_
    refine j_icmp_ge hX (tgt := 33) dX9_wordless_12 (by decide) (fun hc => ?_) (fun hc => ?_)
    · rw [if_pos hc] at h
      refine j_iload_n hX 1 dX9_wordless_33 rfl rfl ?_
      refine j_iconst hX dX9_wordless_34 (rc rfl) ?_
      refine j_ixor hX dX9_wordless_35 ?_
      refine j_bipush hX dX9_wordless_36 (rc rfl) (by decide) ?_
      refine j_iand hX dX9_wordless_38 ?_
      cases h
      exact j_iret hX hR dX9_wordless_39
    · rw [if_neg hc] at h
      refine j_iload_n hX 1 dX9_wordless_15 rfl rfl ?_
      refine j_aload_n hX 0 dX9_wordless_16 rfl rfl ?_
      refine j_getS (k := 0) hX hfl cbX9 ty0 (by decide) rfl wd404 rfl sb0_0 dX9_wordless_17 ?_
      refine j_iload_n hX 2 dX9_wordless_20 rfl rfl ?_
      refine j_iconst hX dX9_wordless_21 (rc rfl) ?_
      obtain ⟨x1, h1, h⟩ := bs h
      refine j_callVI hX mwX5_value miX5_value wd497 cbX5 ty1 hyX5_value (by omega) (by decide) ⟨Nat.zero_le _, Nat.zero_le _⟩ dX9_wordless_22 (s_X5_value hfl hE h1) npX5_value rfl (Nat.le_of_ble_eq_true rfl) ?_
      refine j_ior hX dX9_wordless_25 ?_
      refine j_istore_n (L' := [(1, vI (o_or v1 x1)), (0, vR 0), (2, vI (v2))]) hX dX9_wordless_26 rfl hnl (by decide) rfl ?_
      refine j_iinc (L' := [(2, vI (w32 (v2 + 1))), (1, vI (o_or v1 x1)), (0, vR 0)]) hX 2 dX9_wordless_27 hnl (by decide) rfl rfl ?_
      refine j_goto hX (tgt := 4) dX9_wordless_30 (by decide) ?_
      refine j_sub [2, 1, 0] rfl ?_
      exact ih _ _ h
theorem s_X9_wordless {g : G0} {B : Nat → Nat} {n : Nat} {E : Mem → Mem}  {S : Mem} {r : Int} (hfl : g.2.2.2.2 = true) (hE : Lens E PC) (h : g_X9_wordless S = some r) : Cn g B n yX9_wordless cX9_wordless 3 (some .int) 3 [vR 0] (E S) (QcI g B n r (E S)) := by
  refine Cn.of (by decide +kernel) (Nat.le_of_ble_eq_true rfl) (fun X hg hnl hX hR => ?_)
  subst hg
  have hX : Ctx X cX9_wordless "TelegramFeelings" 3 := hX
  unfold g_X9_wordless at h
  show JW X B n 0 0 0 [(0, vR 0)] [] (E S) (QM X (QcI (gX X) B n r (E S)))
  refine j_iconst hX dX9_wordless_0 (rc rfl) ?_
  refine j_istore_n (L' := [(1, vI (0)), (0, vR 0)]) hX dX9_wordless_1 rfl hnl (by decide) rfl ?_
  refine j_iconst hX dX9_wordless_2 (rc rfl) ?_
  refine j_istore_n (L' := [(2, vI (0)), (1, vI (0)), (0, vR 0)]) hX dX9_wordless_3 rfl hnl (by decide) rfl ?_
  refine j_sub [2, 1, 0] rfl ?_
  refine sl_X9_wordless_4 hX hR hfl hnl hE  _ _ _ h
theorem s_X9_lacks {g : G0} {B : Nat → Nat} {n : Nat} {E : Mem → Mem} {a1 : Int} {S : Mem} {r : Int} (hfl : g.2.2.2.2 = true) (hE : Lens E PC) (h : g_X9_lacks a1 S = some r) : Cn g B n yX9_lacks cX9_lacks 2 (some .int) 4 [vR 0, vI (a1)] (E S) (QcI g B n r (E S)) := by
  refine Cn.of (by decide +kernel) (Nat.le_of_ble_eq_true rfl) (fun X hg hnl hX hR => ?_)
  subst hg
  have hX : Ctx X cX9_lacks "TelegramFeelings" 4 := hX
  unfold g_X9_lacks at h
  show JW X B n 0 0 0 [(0, vR 0), (1, vI (a1))] [] (E S) (QM X (QcI (gX X) B n r (E S)))
  refine j_iload_n hX 1 dX9_lacks_0 rfl rfl ?_
  refine j_iconst hX dX9_lacks_1 (rc rfl) ?_
  refine j_iconst hX dX9_lacks_2 (rc rfl) ?_
  refine j_callSI hX mwX9_between msX9_between wd463 hyX9_between (by omega) (by decide) ⟨Nat.zero_le _, Nat.zero_le _⟩ dX9_lacks_3 (s_X9_between hfl rfl) npX9_between rfl (Nat.le_of_ble_eq_true rfl) ?_
  refine j_if_ne hX (tgt := 11) dX9_lacks_6 (by decide) (fun hc => ?_) (fun hc => ?_)
  · rw [if_neg hc] at h
    refine j_iload_n hX 1 dX9_lacks_11 rfl rfl ?_
    refine j_if_ne hX (tgt := 22) dX9_lacks_12 (by decide) (fun hc => ?_) (fun hc => ?_)
    · rw [if_neg hc] at h
      refine j_aload_n hX 0 dX9_lacks_22 rfl rfl ?_
      obtain ⟨x1, h1, h⟩ := bs h
      refine j_callVI hX mwX9_dearest miX9_dearest wd950 cbX9 ty0 hyX9_dearest (by omega) (by decide) ⟨Nat.zero_le _, Nat.zero_le _⟩ dX9_lacks_23 (s_X9_dearest hfl hE h1) npX9_dearest rfl (Nat.le_of_ble_eq_true rfl) ?_
      cases h
      exact j_iret hX hR dX9_lacks_26
    · rw [if_pos hc] at h
      refine j_aload_n hX 0 dX9_lacks_15 rfl rfl ?_
      obtain ⟨x2, h1, h⟩ := bs h
      refine j_callVI hX mwX9_wordless miX9_wordless wd946 cbX9 ty0 hyX9_wordless (by omega) (by decide) ⟨Nat.zero_le _, Nat.zero_le _⟩ dX9_lacks_16 (s_X9_wordless hfl hE h1) npX9_wordless rfl (Nat.le_of_ble_eq_true rfl) ?_
      refine j_goto hX (tgt := 26) dX9_lacks_19 (by decide) ?_
      cases h
      exact j_iret hX hR dX9_lacks_26
  · rw [if_pos hc] at h
    refine j_iconst hX dX9_lacks_9 (rc rfl) ?_
    cases h
    exact j_iret hX hR dX9_lacks_10
theorem s_X9_drawn {g : G0} {B : Nat → Nat} {n : Nat} {E : Mem → Mem} {a1 : Int} {a2 : Int} {a3 : Int} {S : Mem} {r : Int} (hfl : g.2.2.2.2 = true) (hE : Lens E PC) (h : g_X9_drawn a1 a2 a3 S = some r) : Cn g B n yX9_drawn cX9_drawn 6 (some .int) 4 [vR 0, vI (a1), vI (a2), vI (a3)] (E S) (QcI g B n r (E S)) := by
  refine Cn.of (by decide +kernel) (Nat.le_of_ble_eq_true rfl) (fun X hg hnl hX hR => ?_)
  subst hg
  have hX : Ctx X cX9_drawn "TelegramFeelings" 4 := hX
  unfold g_X9_drawn at h
  show JW X B n 0 0 0 [(0, vR 0), (1, vI (a1)), (2, vI (a2)), (3, vI (a3))] [] (E S) (QM X (QcI (gX X) B n r (E S)))
  refine j_iload_n hX 2 dX9_drawn_0 rfl rfl ?_
  refine j_bipush hX dX9_drawn_1 (rc rfl) (by decide) ?_
  refine j_idiv hX dX9_drawn_3 (by decide) ?_
  refine j_istore (L' := [(4, vI (w32 (Int.tdiv a2 100))), (0, vR 0), (1, vI (a1)), (2, vI (a2)), (3, vI (a3))]) hX dX9_drawn_4 hnl (by decide) rfl ?_
  refine j_iload_n hX 3 dX9_drawn_6 rfl rfl ?_
  refine j_bipush hX dX9_drawn_7 (rc rfl) (by decide) ?_
  refine j_irem hX dX9_drawn_9 (by decide) ?_
  refine j_istore (L' := [(5, vI (Int.tmod a2 100)), (4, vI (w32 (Int.tdiv a2 100))), (0, vR 0), (1, vI (a1)), (2, vI (a2)), (3, vI (a3))]) hX dX9_drawn_10 hnl (by decide) rfl ?_
  refine j_iload hX 1 dX9_drawn_12 rfl ?_
  refine j_iconst hX dX9_drawn_14 (rc rfl) ?_
  refine j_bipush hX dX9_drawn_15 (rc rfl) (by decide) ?_
  refine j_callSI hX mwX9_between msX9_between wd463 hyX9_between (by omega) (by decide) ⟨Nat.zero_le _, Nat.zero_le _⟩ dX9_drawn_17 (s_X9_between hfl rfl) npX9_between rfl (Nat.le_of_ble_eq_true rfl) ?_
  refine j_if_eq hX (tgt := 43) dX9_drawn_20 (by decide) (fun hc => ?_) (fun hc => ?_)
  · rw [if_pos hc] at h
    refine j_iconst hX dX9_drawn_43 (rc rfl) ?_
    cases h
    exact j_iret hX hR dX9_drawn_44
  · rw [if_neg hc] at h
    refine j_iload hX 0 dX9_drawn_23 rfl ?_
    refine j_iconst hX dX9_drawn_25 (rc rfl) ?_
    refine j_bipush hX dX9_drawn_26 (rc rfl) (by decide) ?_
    refine j_callSI hX mwX9_between msX9_between wd463 hyX9_between (by omega) (by decide) ⟨Nat.zero_le _, Nat.zero_le _⟩ dX9_drawn_28 (s_X9_between hfl rfl) npX9_between rfl (Nat.le_of_ble_eq_true rfl) ?_
    refine j_if_eq hX (tgt := 43) dX9_drawn_31 (by decide) (fun hc => ?_) (fun hc => ?_)
    · rw [if_pos hc] at h
      refine j_iconst hX dX9_drawn_43 (rc rfl) ?_
      cases h
      exact j_iret hX hR dX9_drawn_44
    · rw [if_neg hc] at h
      refine j_iload_n hX 5 dX9_drawn_34 rfl rfl ?_
      refine j_iconst hX dX9_drawn_35 (rc rfl) ?_
      refine j_iconst hX dX9_drawn_36 (rc rfl) ?_
      refine j_callSI hX mwX9_between msX9_between wd463 hyX9_between (by omega) (by decide) ⟨Nat.zero_le _, Nat.zero_le _⟩ dX9_drawn_37 (s_X9_between hfl rfl) npX9_between rfl (Nat.le_of_ble_eq_true rfl) ?_
      refine j_if_ne hX (tgt := 45) dX9_drawn_40 (by decide) (fun hc => ?_) (fun hc => ?_)
      · rw [if_neg hc] at h
        refine j_aload_n hX 2 dX9_drawn_45 rfl rfl ?_
        refine j_getS (k := 5) hX hfl cbX9 ty0 (by decide) rfl wd409 rfl sb0_5 dX9_drawn_46 ?_
        refine j_iload_n hX 3 dX9_drawn_49 rfl rfl ?_
        refine j_iload hX 1 dX9_drawn_50 rfl ?_
        refine j_iload hX 0 dX9_drawn_52 rfl ?_
        refine j_imul hX dX9_drawn_54 ?_
        refine j_iload_n hX 5 dX9_drawn_55 rfl rfl ?_
        refine j_if_ne hX (tgt := 63) dX9_drawn_56 (by decide) (fun hc => ?_) (fun hc => ?_)
        · rw [if_neg hc] at h
          refine j_iconst hX dX9_drawn_63 (rc rfl) ?_
          obtain ⟨x1, h1, h⟩ := bs h
          refine j_callVI hX mwX3_draws miX3_draws wd958 cbX3 ty38 hyX3_draws (by omega) (by decide) ⟨Nat.zero_le _, Nat.zero_le _⟩ dX9_drawn_64 (s_X3_draws hfl hE h1) npX3_draws rfl (Nat.le_of_ble_eq_true rfl) ?_
          cases h
          exact j_iret hX hR dX9_drawn_67
        · rw [if_pos hc] at h
          refine j_iconst hX dX9_drawn_59 (rc rfl) ?_
          refine j_goto hX (tgt := 64) dX9_drawn_60 (by decide) ?_
          obtain ⟨x2, h1, h⟩ := bs h
          refine j_callVI hX mwX3_draws miX3_draws wd958 cbX3 ty38 hyX3_draws (by omega) (by decide) ⟨Nat.zero_le _, Nat.zero_le _⟩ dX9_drawn_64 (s_X3_draws hfl hE h1) npX3_draws rfl (Nat.le_of_ble_eq_true rfl) ?_
          cases h
          exact j_iret hX hR dX9_drawn_67
      · rw [if_pos hc] at h
        refine j_iconst hX dX9_drawn_43 (rc rfl) ?_
        cases h
        exact j_iret hX hR dX9_drawn_44
theorem s_X9_send {g : G0} {B : Nat → Nat} {n : Nat} {E : Mem → Mem} {a1 : Int} {a2 : Int} {S : Mem} {r : Int} {S' : Mem} (hfl : g.2.2.2.2 = true) (hE : Lens E PC) (h : g_X9_send a1 a2 S = some (r, S')) : Cn g B n yX9_send cX9_send 8 (some .int) 5 [vR 0, vI (a1), vI (a2)] (E S) (QcI g B n r (E S')) := by
  refine Cn.of (by decide +kernel) (Nat.le_of_ble_eq_true rfl) (fun X hg hnl hX hR => ?_)
  subst hg
  have hX : Ctx X cX9_send "TelegramFeelings" 5 := hX
  unfold g_X9_send at h
  show JW X B n 0 0 0 [(0, vR 0), (1, vI (a1)), (2, vI (a2))] [] (E S) (QM X (QcI (gX X) B n r (E S')))
  refine j_iload_n hX 2 dX9_send_0 rfl rfl ?_
  refine j_bipush hX dX9_send_1 (rc rfl) (by decide) ?_
  refine j_idiv hX dX9_send_3 (by decide) ?_
  refine j_istore_n (L' := [(3, vI (w32 (Int.tdiv a2 10))), (0, vR 0), (1, vI (a1)), (2, vI (a2))]) hX dX9_send_4 rfl hnl (by decide) rfl ?_
  refine j_iload_n hX 3 dX9_send_5 rfl rfl ?_
  refine j_bipush hX dX9_send_6 (rc rfl) (by decide) ?_
  refine j_irem hX dX9_send_8 (by decide) ?_
  refine j_istore (L' := [(4, vI (Int.tmod a2 10)), (3, vI (w32 (Int.tdiv a2 10))), (0, vR 0), (1, vI (a1)), (2, vI (a2))]) hX dX9_send_9 hnl (by decide) rfl ?_
  refine j_iload_n hX 1 dX9_send_11 rfl rfl ?_
  refine j_iload hX 0 dX9_send_12 rfl ?_
  refine j_icmp_eq hX (tgt := 42) dX9_send_14 (by decide) (fun hc => ?_) (fun hc => ?_)
  · rw [if_pos hc] at h
    refine j_iconst hX dX9_send_42 (rc rfl) ?_
    cases h
    exact j_iret hX hR dX9_send_43
  · rw [if_neg hc] at h
    refine j_aload_n hX 2 dX9_send_17 rfl rfl ?_
    refine j_getS (k := 0) hX hfl cbX9 ty0 (by decide) rfl wd404 rfl sb0_0 dX9_send_18 ?_
    refine j_iload_n hX 1 dX9_send_21 rfl rfl ?_
    refine j_iconst hX dX9_send_22 (rc rfl) ?_
    refine j_callVI hX mwX5_has miX5_has wd496 cbX5 ty1 hyX5_has (by omega) (by decide) ⟨Nat.zero_le _, Nat.zero_le _⟩ dX9_send_23 (s_X5_has hfl hE rfl) npX5_has rfl (Nat.le_of_ble_eq_true rfl) ?_
    refine j_if_eq hX (tgt := 42) dX9_send_26 (by decide) (fun hc => ?_) (fun hc => ?_)
    · rw [if_pos hc] at h
      refine j_iconst hX dX9_send_42 (rc rfl) ?_
      cases h
      exact j_iret hX hR dX9_send_43
    · rw [if_neg hc] at h
      refine j_aload_n hX 2 dX9_send_29 rfl rfl ?_
      refine j_getS (k := 0) hX hfl cbX9 ty0 (by decide) rfl wd404 rfl sb0_0 dX9_send_30 ?_
      refine j_iload hX 0 dX9_send_33 rfl ?_
      refine j_iconst hX dX9_send_35 (rc rfl) ?_
      refine j_callVI hX mwX5_has miX5_has wd496 cbX5 ty1 hyX5_has (by omega) (by decide) ⟨Nat.zero_le _, Nat.zero_le _⟩ dX9_send_36 (s_X5_has hfl hE rfl) npX5_has rfl (Nat.le_of_ble_eq_true rfl) ?_
      refine j_if_ne hX (tgt := 44) dX9_send_39 (by decide) (fun hc => ?_) (fun hc => ?_)
      · rw [if_neg hc] at h
        refine j_aload_n hX 2 dX9_send_44 rfl rfl ?_
        refine j_iload_n hX 3 dX9_send_45 rfl rfl ?_
        obtain ⟨x2, S1, h1, h⟩ := bd2_s h
        refine j_callVI hX mwX9_opened miX9_opened wd691 cbX9 ty0 hyX9_opened (by omega) (by decide) ⟨Nat.zero_le _, Nat.zero_le _⟩ dX9_send_46 (s_X9_opened hfl hE h1) npX9_opened rfl (Nat.le_of_ble_eq_true rfl) ?_
        refine j_istore (L' := [(5, vI (x2)), (4, vI (Int.tmod a2 10)), (3, vI (w32 (Int.tdiv a2 10))), (0, vR 0), (1, vI (a1)), (2, vI (a2))]) hX dX9_send_49 hnl (by decide) rfl ?_
        refine j_iload hX 0 dX9_send_51 rfl ?_
        refine j_if_eq hX (tgt := 59) dX9_send_53 (by decide) (fun hc => ?_) (fun hc => ?_)
        · rw [if_pos hc] at h
          refine j_aload_n hX 3 dX9_send_59 rfl rfl ?_
          refine j_getS (k := 3) hX hfl cbX9 ty0 (by decide) rfl wd407 rfl sb0_3 dX9_send_60 ?_
          obtain ⟨x3, h1, h⟩ := bs h
          refine j_callVI hX mwX8_isRight miX8_isRight wd717 cbX8 ty30 hyX8_isRight (by omega) (by decide) ⟨Nat.zero_le _, Nat.zero_le _⟩ dX9_send_63 (s_X8_isRight hfl hE h1) npX8_isRight rfl (Nat.le_of_ble_eq_true rfl) ?_
          refine j_if_ne hX (tgt := 79) dX9_send_66 (by decide) (fun hc => ?_) (fun hc => ?_)
          · rw [if_neg hc] at h
            refine j_aload_n hX 3 dX9_send_79 rfl rfl ?_
            refine j_getS (k := 3) hX hfl cbX9 ty0 (by decide) rfl wd407 rfl sb0_3 dX9_send_80 ?_
            obtain ⟨x4, h1, h⟩ := bs h
            refine j_callVI hX mwX8_senseOf miX8_senseOf wd709 cbX8 ty30 hyX8_senseOf (by omega) (by decide) ⟨Nat.zero_le _, Nat.zero_le _⟩ dX9_send_83 (s_X8_senseOf hfl hE h1) npX8_senseOf rfl (Nat.le_of_ble_eq_true rfl) ?_
            refine j_istore (L' := [(6, vI (x4)), (5, vI (x2)), (4, vI (Int.tmod a2 10)), (3, vI (w32 (Int.tdiv a2 10))), (0, vR 0), (1, vI (a1)), (2, vI (a2))]) hX dX9_send_86 hnl (by decide) rfl ?_
            refine j_aload_n hX 4 dX9_send_88 rfl rfl ?_
            refine j_getS (k := 3) hX hfl cbX9 ty0 (by decide) rfl wd407 rfl sb0_3 dX9_send_89 ?_
            obtain ⟨x6, S5, h1, h⟩ := bd2_s h
            refine j_callVI hX mwX8_costs miX8_costs wd703 cbX8 ty30 hyX8_costs (by omega) (by decide) ⟨Nat.zero_le _, Nat.zero_le _⟩ dX9_send_92 (s_X8_costs hfl hE h1) npX8_costs rfl (Nat.le_of_ble_eq_true rfl) ?_
            refine j_istore (L' := [(7, vI (x6)), (6, vI (x4)), (5, vI (x2)), (4, vI (Int.tmod a2 10)), (3, vI (w32 (Int.tdiv a2 10))), (0, vR 0), (1, vI (a1)), (2, vI (a2))]) hX dX9_send_95 hnl (by decide) rfl ?_
            refine j_aload_n hX 5 dX9_send_97 rfl rfl ?_
            refine j_iload_n hX 4 dX9_send_98 rfl rfl ?_
            refine j_iload hX 1 dX9_send_99 rfl ?_
            refine j_iload hX 0 dX9_send_101 rfl ?_
            obtain ⟨x7, h1, h⟩ := bs h
            refine j_callVI hX mwX9_maySend miX9_maySend wd929 cbX9 ty0 hyX9_maySend (by omega) (by decide) ⟨Nat.zero_le _, Nat.zero_le _⟩ dX9_send_103 (s_X9_maySend hfl hE h1) npX9_maySend rfl (Nat.le_of_ble_eq_true rfl) ?_
            refine j_if_ne hX (tgt := 119) dX9_send_106 (by decide) (fun hc => ?_) (fun hc => ?_)
            · rw [if_neg hc] at h
              refine j_aload_n hX 5 dX9_send_119 rfl rfl ?_
              refine j_getS (k := 0) hX hfl cbX9 ty0 (by decide) rfl wd404 rfl sb0_0 dX9_send_120 ?_
              refine j_iload_n hX 4 dX9_send_123 rfl rfl ?_
              refine j_iconst hX dX9_send_124 (rc rfl) ?_
              refine j_aload_n hX 5 dX9_send_125 rfl rfl ?_
              refine j_getS (k := 0) hX hfl cbX9 ty0 (by decide) rfl wd404 rfl sb0_0 dX9_send_126 ?_
              refine j_iload_n hX 4 dX9_send_129 rfl rfl ?_
              refine j_iconst hX dX9_send_130 (rc rfl) ?_
              obtain ⟨x8, h1, h⟩ := bs h
              refine j_callVI hX mwX5_value miX5_value wd497 cbX5 ty1 hyX5_value (by omega) (by decide) ⟨Nat.zero_le _, Nat.zero_le _⟩ dX9_send_131 (s_X5_value hfl hE h1) npX5_value rfl (Nat.le_of_ble_eq_true rfl) ?_
              refine j_iload hX 0 dX9_send_134 rfl ?_
              refine j_isub hX dX9_send_136 ?_
              obtain ⟨S9, h1, h⟩ := bs h
              refine j_callVV hX mwX5_set miX5_set wd501 cbX5 ty1 hyX5_set (by omega) (by decide) ⟨Nat.zero_le _, Nat.zero_le _⟩ dX9_send_137 (s_X5_set hfl hE h1) npX5_set rfl (Nat.le_of_ble_eq_true rfl) ?_
              refine j_aload_n hX 5 dX9_send_140 rfl rfl ?_
              refine j_getS (k := 0) hX hfl cbX9 ty0 (by decide) rfl wd404 rfl sb0_0 dX9_send_141 ?_
              refine j_iload hX 3 dX9_send_144 rfl ?_
              refine j_bipush hX dX9_send_146 (rc rfl) (by decide) ?_
              refine j_aload_n hX 5 dX9_send_148 rfl rfl ?_
              refine j_getS (k := 0) hX hfl cbX9 ty0 (by decide) rfl wd404 rfl sb0_0 dX9_send_149 ?_
              refine j_iload hX 3 dX9_send_152 rfl ?_
              refine j_bipush hX dX9_send_154 (rc rfl) (by decide) ?_
              obtain ⟨x10, h1, h⟩ := bs h
              refine j_callVI hX mwX5_value miX5_value wd497 cbX5 ty1 hyX5_value (by omega) (by decide) ⟨Nat.zero_le _, Nat.zero_le _⟩ dX9_send_156 (s_X5_value hfl hE h1) npX5_value rfl (Nat.le_of_ble_eq_true rfl) ?_
              refine j_iload hX 1 dX9_send_159 rfl ?_
              refine j_ior hX dX9_send_161 ?_
              obtain ⟨S11, h1, h⟩ := bs h
              refine j_callVV hX mwX5_set miX5_set wd501 cbX5 ty1 hyX5_set (by omega) (by decide) ⟨Nat.zero_le _, Nat.zero_le _⟩ dX9_send_162 (s_X5_set hfl hE h1) npX5_set rfl (Nat.le_of_ble_eq_true rfl) ?_
              refine j_aload_n hX 5 dX9_send_165 rfl rfl ?_
              refine j_getS (k := 6) hX hfl cbX9 ty0 (by decide) rfl wd410 rfl sb0_6 dX9_send_166 ?_
              refine j_aload_n hX 5 dX9_send_169 rfl rfl ?_
              refine j_getS (k := 3) hX hfl cbX9 ty0 (by decide) rfl wd407 rfl sb0_3 dX9_send_170 ?_
              refine j_getI (k := 5) hX hE cbX8 ty30 pc30 (by decide) rfl wd252 rfl dX9_send_173 ?_
              refine j_iload hX 0 dX9_send_176 rfl ?_
              obtain ⟨S12, h1, h⟩ := bs h
              refine j_callVV hX mwX2_noteWire miX2_noteWire wd972 cbX2 ty43 hyX2_noteWire (by omega) (by decide) ⟨Nat.zero_le _, Nat.zero_le _⟩ dX9_send_178 (s_X2_noteWire hfl hE h1) npX2_noteWire rfl (Nat.le_of_ble_eq_true rfl) ?_
              refine j_iload hX 0 dX9_send_181 rfl ?_
              cases h
              exact j_iret hX hR dX9_send_183
            · rw [if_pos hc] at h
              refine j_aload_n hX 5 dX9_send_109 rfl rfl ?_
              refine j_getS (k := 6) hX hfl cbX9 ty0 (by decide) rfl wd410 rfl sb0_6 dX9_send_110 ?_
              refine j_bipush hX dX9_send_113 (rc rfl) (by decide) ?_
              obtain ⟨x14, S13, h1, h⟩ := bd2_s h
              refine j_callVI hX mwX2_refuse miX2_refuse wd968 cbX2 ty43 hyX2_refuse (by omega) (by decide) ⟨Nat.zero_le _, Nat.zero_le _⟩ dX9_send_115 (s_X2_refuse hfl hE h1) npX2_refuse rfl (Nat.le_of_ble_eq_true rfl) ?_
              cases h
              exact j_iret hX hR dX9_send_118
          · rw [if_pos hc] at h
            refine j_aload_n hX 3 dX9_send_69 rfl rfl ?_
            refine j_getS (k := 6) hX hfl cbX9 ty0 (by decide) rfl wd410 rfl sb0_6 dX9_send_70 ?_
            refine j_bipush hX dX9_send_73 (rc rfl) (by decide) ?_
            obtain ⟨x16, S15, h1, h⟩ := bd2_s h
            refine j_callVI hX mwX2_refuse miX2_refuse wd968 cbX2 ty43 hyX2_refuse (by omega) (by decide) ⟨Nat.zero_le _, Nat.zero_le _⟩ dX9_send_75 (s_X2_refuse hfl hE h1) npX2_refuse rfl (Nat.le_of_ble_eq_true rfl) ?_
            cases h
            exact j_iret hX hR dX9_send_78
        · rw [if_neg hc] at h
          refine j_iload hX 0 dX9_send_56 rfl ?_
          cases h
          exact j_iret hX hR dX9_send_58
      · rw [if_pos hc] at h
        refine j_iconst hX dX9_send_42 (rc rfl) ?_
        cases h
        exact j_iret hX hR dX9_send_43
theorem s_X9_night {g : G0} {B : Nat → Nat} {n : Nat} {E : Mem → Mem}  {S : Mem} {r : Int} {S' : Mem} (hfl : g.2.2.2.2 = true) (hE : Lens E PC) (h : g_X9_night S = some (r, S')) : Cn g B n yX9_night cX9_night 1 (some .int) 3 [vR 0] (E S) (QcI g B n r (E S')) := by
  refine Cn.of (by decide +kernel) (Nat.le_of_ble_eq_true rfl) (fun X hg hnl hX hR => ?_)
  subst hg
  have hX : Ctx X cX9_night "TelegramFeelings" 3 := hX
  unfold g_X9_night at h
  show JW X B n 0 0 0 [(0, vR 0)] [] (E S) (QM X (QcI (gX X) B n r (E S')))
  refine j_aload_n hX 0 dX9_night_0 rfl rfl ?_
  refine j_getS (k := 0) hX hfl cbX9 ty0 (by decide) rfl wd404 rfl sb0_0 dX9_night_1 ?_
  refine j_iconst hX dX9_night_4 (rc rfl) ?_
  refine j_bipush hX dX9_night_5 (rc rfl) (by decide) ?_
  refine j_iconst hX dX9_night_7 (rc rfl) ?_
  refine j_aload_n hX 0 dX9_night_8 rfl rfl ?_
  refine j_getS (k := 0) hX hfl cbX9 ty0 (by decide) rfl wd404 rfl sb0_0 dX9_night_9 ?_
  refine j_iconst hX dX9_night_12 (rc rfl) ?_
  refine j_bipush hX dX9_night_13 (rc rfl) (by decide) ?_
  obtain ⟨x1, h1, h⟩ := bs h
  refine j_callVI hX mwX5_value miX5_value wd497 cbX5 ty1 hyX5_value (by omega) (by decide) ⟨Nat.zero_le _, Nat.zero_le _⟩ dX9_night_15 (s_X5_value hfl hE h1) npX5_value rfl (Nat.le_of_ble_eq_true rfl) ?_
  refine j_isub hX dX9_night_18 ?_
  obtain ⟨S2, h1, h⟩ := bs h
  refine j_callVV hX mwX5_set miX5_set wd501 cbX5 ty1 hyX5_set (by omega) (by decide) ⟨Nat.zero_le _, Nat.zero_le _⟩ dX9_night_19 (s_X5_set hfl hE h1) npX5_set rfl (Nat.le_of_ble_eq_true rfl) ?_
  refine j_aload_n hX 0 dX9_night_22 rfl rfl ?_
  refine j_getS (k := 0) hX hfl cbX9 ty0 (by decide) rfl wd404 rfl sb0_0 dX9_night_23 ?_
  refine j_iconst hX dX9_night_26 (rc rfl) ?_
  refine j_bipush hX dX9_night_27 (rc rfl) (by decide) ?_
  obtain ⟨x3, h1, h⟩ := bs h
  refine j_callVI hX mwX5_value miX5_value wd497 cbX5 ty1 hyX5_value (by omega) (by decide) ⟨Nat.zero_le _, Nat.zero_le _⟩ dX9_night_29 (s_X5_value hfl hE h1) npX5_value rfl (Nat.le_of_ble_eq_true rfl) ?_
  cases h
  exact j_iret hX hR dX9_night_32
theorem s_X9_led {g : G0} {B : Nat → Nat} {n : Nat} {E : Mem → Mem} {a1 : Int} {S : Mem} {r : Int} (hfl : g.2.2.2.2 = true) (hE : Lens E PC) (h : g_X9_led a1 S = some r) : Cn g B n yX9_led cX9_led 2 (some .int) 2 [vR 0, vI (a1)] (E S) (QcI g B n r (E S)) := by
  refine Cn.of (by decide +kernel) (Nat.le_of_ble_eq_true rfl) (fun X hg hnl hX hR => ?_)
  subst hg
  have hX : Ctx X cX9_led "TelegramFeelings" 2 := hX
  unfold g_X9_led at h
  show JW X B n 0 0 0 [(0, vR 0), (1, vI (a1))] [] (E S) (QM X (QcI (gX X) B n r (E S)))
  refine j_iload_n hX 1 dX9_led_0 rfl rfl ?_
  refine j_iconst hX dX9_led_1 (rc rfl) ?_
  refine j_iconst hX dX9_led_2 (rc rfl) ?_
  refine j_callSI hX mwX9_between msX9_between wd463 hyX9_between (by omega) (by decide) ⟨Nat.zero_le _, Nat.zero_le _⟩ dX9_led_3 (s_X9_between hfl rfl) npX9_between rfl (Nat.le_of_ble_eq_true rfl) ?_
  refine j_if_eq hX (tgt := 21) dX9_led_6 (by decide) (fun hc => ?_) (fun hc => ?_)
  · rw [if_pos hc] at h
    refine j_iconst hX dX9_led_21 (rc rfl) ?_
    cases h
    exact j_iret hX hR dX9_led_22
  · rw [if_neg hc] at h
    refine j_aload_n hX 0 dX9_led_9 rfl rfl ?_
    refine j_getS (k := 6) hX hfl cbX9 ty0 (by decide) rfl wd410 rfl sb0_6 dX9_led_10 ?_
    refine j_getS (k := 1) hX hfl cbX2 ty43 (by decide) rfl wd324 rfl sb43_1 dX9_led_13 ?_
    refine j_iload_n hX 1 dX9_led_16 rfl rfl ?_
    obtain ⟨x1, hv, h⟩ := bs h
    refine j_iald hX hE ty44 pc44 hv dX9_led_17 ?_
    refine j_goto hX (tgt := 22) dX9_led_18 (by decide) ?_
    cases h
    exact j_iret hX hR dX9_led_22
theorem s_X9_image {g : G0} {B : Nat → Nat} {n : Nat} {E : Mem → Mem}  {S : Mem} {r : Int} {S' : Mem} (hfl : g.2.2.2.2 = true) (hE : Lens E PC) (h : g_X9_image S = some (r, S')) : Cn g B n yX9_image cX9_image 1 (some .int) 4 [vR 0] (E S) (QcI g B n r (E S')) := by
  refine Cn.of (by decide +kernel) (Nat.le_of_ble_eq_true rfl) (fun X hg hnl hX hR => ?_)
  subst hg
  have hX : Ctx X cX9_image "TelegramFeelings" 4 := hX
  unfold g_X9_image at h
  show JW X B n 0 0 0 [(0, vR 0)] [] (E S) (QM X (QcI (gX X) B n r (E S')))
  refine j_aload_n hX 0 dX9_image_0 rfl rfl ?_
  refine j_getS (k := 6) hX hfl cbX9 ty0 (by decide) rfl wd410 rfl sb0_6 dX9_image_1 ?_
  obtain ⟨x2, S1, h1, h⟩ := bd2_s h
  refine j_callVI hX mwX2_keepImage miX2_keepImage wd989 cbX2 ty43 hyX2_keepImage (by omega) (by decide) ⟨Nat.zero_le _, Nat.zero_le _⟩ dX9_image_4 (s_X2_keepImage hfl hE h1) npX2_keepImage rfl (Nat.le_of_ble_eq_true rfl) ?_
  cases h
  exact j_iret hX hR dX9_image_7
theorem s_X9_back {g : G0} {B : Nat → Nat} {n : Nat} {E : Mem → Mem}  {S : Mem} {r : Int} {S' : Mem} (hfl : g.2.2.2.2 = true) (hE : Lens E PC) (h : g_X9_back S = some (r, S')) : Cn g B n yX9_back cX9_back 1 (some .int) 4 [vR 0] (E S) (QcI g B n r (E S')) := by
  refine Cn.of (by decide +kernel) (Nat.le_of_ble_eq_true rfl) (fun X hg hnl hX hR => ?_)
  subst hg
  have hX : Ctx X cX9_back "TelegramFeelings" 4 := hX
  unfold g_X9_back at h
  show JW X B n 0 0 0 [(0, vR 0)] [] (E S) (QM X (QcI (gX X) B n r (E S')))
  refine j_aload_n hX 0 dX9_back_0 rfl rfl ?_
  refine j_getS (k := 6) hX hfl cbX9 ty0 (by decide) rfl wd410 rfl sb0_6 dX9_back_1 ?_
  obtain ⟨x2, S1, h1, h⟩ := bd2_s h
  refine j_callVI hX mwX2_layBack miX2_layBack wd998 cbX2 ty43 hyX2_layBack (by omega) (by decide) ⟨Nat.zero_le _, Nat.zero_le _⟩ dX9_back_4 (s_X2_layBack hfl hE h1) npX2_layBack rfl (Nat.le_of_ble_eq_true rfl) ?_
  cases h
  exact j_iret hX hR dX9_back_7
theorem s_X9_undo {g : G0} {B : Nat → Nat} {n : Nat} {E : Mem → Mem}  {S : Mem} {r : Int} {S' : Mem} (hfl : g.2.2.2.2 = true) (hE : Lens E PC) (h : g_X9_undo S = some (r, S')) : Cn g B n yX9_undo cX9_undo 1 (some .int) 4 [vR 0] (E S) (QcI g B n r (E S')) := by
  refine Cn.of (by decide +kernel) (Nat.le_of_ble_eq_true rfl) (fun X hg hnl hX hR => ?_)
  subst hg
  have hX : Ctx X cX9_undo "TelegramFeelings" 4 := hX
  unfold g_X9_undo at h
  show JW X B n 0 0 0 [(0, vR 0)] [] (E S) (QM X (QcI (gX X) B n r (E S')))
  refine j_aload_n hX 0 dX9_undo_0 rfl rfl ?_
  refine j_getS (k := 7) hX hfl cbX9 ty0 (by decide) rfl wd411 rfl sb0_7 dX9_undo_1 ?_
  obtain ⟨x2, S1, h1, h⟩ := bd2_s h
  refine j_callVI hX mwX1_undoOne miX1_undoOne wd1007 cbX1 ty48 hyX1_undoOne (by omega) (by decide) ⟨Nat.zero_le _, Nat.zero_le _⟩ dX9_undo_4 (s_X1_undoOne hfl hE h1) npX1_undoOne rfl (Nat.le_of_ble_eq_true rfl) ?_
  cases h
  exact j_iret hX hR dX9_undo_7
theorem s_X9_redo {g : G0} {B : Nat → Nat} {n : Nat} {E : Mem → Mem}  {S : Mem} {r : Int} {S' : Mem} (hfl : g.2.2.2.2 = true) (hE : Lens E PC) (h : g_X9_redo S = some (r, S')) : Cn g B n yX9_redo cX9_redo 1 (some .int) 4 [vR 0] (E S) (QcI g B n r (E S')) := by
  refine Cn.of (by decide +kernel) (Nat.le_of_ble_eq_true rfl) (fun X hg hnl hX hR => ?_)
  subst hg
  have hX : Ctx X cX9_redo "TelegramFeelings" 4 := hX
  unfold g_X9_redo at h
  show JW X B n 0 0 0 [(0, vR 0)] [] (E S) (QM X (QcI (gX X) B n r (E S')))
  refine j_aload_n hX 0 dX9_redo_0 rfl rfl ?_
  refine j_getS (k := 7) hX hfl cbX9 ty0 (by decide) rfl wd411 rfl sb0_7 dX9_redo_1 ?_
  obtain ⟨x2, S1, h1, h⟩ := bd2_s h
  refine j_callVI hX mwX1_redoOne miX1_redoOne wd1016 cbX1 ty48 hyX1_redoOne (by omega) (by decide) ⟨Nat.zero_le _, Nat.zero_le _⟩ dX9_redo_4 (s_X1_redoOne hfl hE h1) npX1_redoOne rfl (Nat.le_of_ble_eq_true rfl) ?_
  cases h
  exact j_iret hX hR dX9_redo_7
theorem s_X9_body {g : G0} {B : Nat → Nat} {n : Nat} {E : Mem → Mem} {a1 : Int} {S : Mem} {r : Int} {S' : Mem} (hfl : g.2.2.2.2 = true) (hE : Lens E PC) (h : g_X9_body a1 S = some (r, S')) : Cn g B n yX9_body cX9_body 2 (some .int) 2 [vR 0, vI (a1)] (E S) (QcI g B n r (E S')) := by
  refine Cn.of (by decide +kernel) (Nat.le_of_ble_eq_true rfl) (fun X hg hnl hX hR => ?_)
  subst hg
  have hX : Ctx X cX9_body "TelegramFeelings" 2 := hX
  unfold g_X9_body at h
  show JW X B n 0 0 0 [(0, vR 0), (1, vI (a1))] [] (E S) (QM X (QcI (gX X) B n r (E S')))
  refine j_iload_n hX 1 dX9_body_0 rfl rfl ?_
  refine j_iconst hX dX9_body_1 (rc rfl) ?_
  refine j_bipush hX dX9_body_2 (rc rfl) (by decide) ?_
  refine j_callSI hX mwX9_between msX9_between wd463 hyX9_between (by omega) (by decide) ⟨Nat.zero_le _, Nat.zero_le _⟩ dX9_body_4 (s_X9_between hfl rfl) npX9_between rfl (Nat.le_of_ble_eq_true rfl) ?_
  refine j_if_eq hX (tgt := 21) dX9_body_7 (by decide) (fun hc => ?_) (fun hc => ?_)
  · rw [if_pos hc] at h
    refine j_iconst hX dX9_body_21 (rc rfl) ?_
    cases h
    exact j_iret hX hR dX9_body_22
  · rw [if_neg hc] at h
    refine j_aload_n hX 0 dX9_body_10 rfl rfl ?_
    refine j_getS (k := 8) hX hfl cbX9 ty0 (by decide) rfl wd412 rfl sb0_8 dX9_body_11 ?_
    refine j_iload_n hX 1 dX9_body_14 rfl rfl ?_
    obtain ⟨x2, S1, h1, h⟩ := bd2_s h
    refine j_callVI hX mwX0_add miX0_add wd1024 cbX0 ty53 hyX0_add (by omega) (by decide) ⟨Nat.zero_le _, Nat.zero_le _⟩ dX9_body_15 (s_X0_add hfl hE h1) npX0_add rfl (Nat.le_of_ble_eq_true rfl) ?_
    refine j_goto hX (tgt := 22) dX9_body_18 (by decide) ?_
    cases h
    exact j_iret hX hR dX9_body_22
theorem s_X9_act {g : G0} {B : Nat → Nat} {n : Nat} {E : Mem → Mem} {a1 : Int} {a2 : Int} {a3 : Int} {S : Mem} {r : Int} {S' : Mem} (hfl : g.2.2.2.2 = true) (hE : Lens E PC) (h : g_X9_act a1 a2 a3 S = some (r, S')) : Cn g B n yX9_act cX9_act 4 (some .int) 48 [vR 0, vI (a1), vI (a2), vI (a3)] (E S) (QcI g B n r (E S')) := by
  refine Cn.of (by decide +kernel) (Nat.le_of_ble_eq_true rfl) (fun X hg hnl hX hR => ?_)
  subst hg
  have hX : Ctx X cX9_act "TelegramFeelings" 48 := hX
  unfold g_X9_act at h
  show JW X B n 0 0 0 [(0, vR 0), (1, vI (a1)), (2, vI (a2)), (3, vI (a3))] [] (E S) (QM X (QcI (gX X) B n r (E S')))
  refine j_aload_n hX 0 dX9_act_0 rfl rfl ?_
  refine j_getS (k := 8) hX hfl cbX9 ty0 (by decide) rfl wd412 rfl sb0_8 dX9_act_1 ?_
  refine j_iload_n hX 1 dX9_act_4 rfl rfl ?_
  refine j_iload_n hX 2 dX9_act_5 rfl rfl ?_
  refine j_iload_n hX 3 dX9_act_6 rfl rfl ?_
  obtain ⟨x2, S1, h1, h⟩ := bd2_s h
  refine j_callVI hX mwX0_runAct miX0_runAct wd1032 cbX0 ty53 hyX0_runAct (by omega) (by decide) ⟨Nat.zero_le _, Nat.zero_le _⟩ dX9_act_7 (s_X0_runAct hfl hE h1) npX0_runAct rfl (Nat.le_of_ble_eq_true rfl) ?_
  cases h
  exact j_iret hX hR dX9_act_10
theorem s_X9_trace {g : G0} {B : Nat → Nat} {n : Nat} {E : Mem → Mem} {a1 : Int} {S : Mem} {r : Int} (hfl : g.2.2.2.2 = true) (hE : Lens E PC) (h : g_X9_trace a1 S = some r) : Cn g B n yX9_trace cX9_trace 2 (some .int) 2 [vR 0, vI (a1)] (E S) (QcI g B n r (E S)) := by
  refine Cn.of (by decide +kernel) (Nat.le_of_ble_eq_true rfl) (fun X hg hnl hX hR => ?_)
  subst hg
  have hX : Ctx X cX9_trace "TelegramFeelings" 2 := hX
  unfold g_X9_trace at h
  show JW X B n 0 0 0 [(0, vR 0), (1, vI (a1))] [] (E S) (QM X (QcI (gX X) B n r (E S)))
  refine j_aload_n hX 0 dX9_trace_0 rfl rfl ?_
  refine j_getS (k := 8) hX hfl cbX9 ty0 (by decide) rfl wd412 rfl sb0_8 dX9_trace_1 ?_
  refine j_iload_n hX 1 dX9_trace_4 rfl rfl ?_
  obtain ⟨x1, h1, h⟩ := bs h
  refine j_callVI hX mwX0_ranAt miX0_ranAt wd1069 cbX0 ty53 hyX0_ranAt (by omega) (by decide) ⟨Nat.zero_le _, Nat.zero_le _⟩ dX9_trace_5 (s_X0_ranAt hfl hE h1) npX0_ranAt rfl (Nat.le_of_ble_eq_true rfl) ?_
  cases h
  exact j_iret hX hR dX9_trace_8
theorem s_X9_keep {g : G0} {B : Nat → Nat} {n : Nat} {E : Mem → Mem} {a1 : Int} {a2 : Int} {S : Mem} {r : Int} {S' : Mem} (hfl : g.2.2.2.2 = true) (hE : Lens E PC) (h : g_X9_keep a1 a2 S = some (r, S')) : Cn g B n yX9_keep cX9_keep 3 (some .int) 3 [vR 0, vI (a1), vI (a2)] (E S) (QcI g B n r (E S')) := by
  refine Cn.of (by decide +kernel) (Nat.le_of_ble_eq_true rfl) (fun X hg hnl hX hR => ?_)
  subst hg
  have hX : Ctx X cX9_keep "TelegramFeelings" 3 := hX
  unfold g_X9_keep at h
  show JW X B n 0 0 0 [(0, vR 0), (1, vI (a1)), (2, vI (a2))] [] (E S) (QM X (QcI (gX X) B n r (E S')))
  refine j_aload_n hX 0 dX9_keep_0 rfl rfl ?_
  refine j_getS (k := 2) hX hfl cbX9 ty0 (by decide) rfl wd406 rfl sb0_2 dX9_keep_1 ?_
  refine j_iload_n hX 1 dX9_keep_4 rfl rfl ?_
  refine j_callVI hX mwX7_has miX7_has wd1077 cbX7 ty19 hyX7_has (by omega) (by decide) ⟨Nat.zero_le _, Nat.zero_le _⟩ dX9_keep_5 (s_X7_has hfl rfl) npX7_has rfl (Nat.le_of_ble_eq_true rfl) ?_
  refine j_if_eq hX (tgt := 28) dX9_keep_8 (by decide) (fun hc => ?_) (fun hc => ?_)
  · rw [if_pos hc] at h
    refine j_iconst hX dX9_keep_28 (rc rfl) ?_
    cases h
    exact j_iret hX hR dX9_keep_29
  · rw [if_neg hc] at h
    refine j_iload_n hX 2 dX9_keep_11 rfl rfl ?_
    refine j_iconst hX dX9_keep_12 (rc rfl) ?_
    refine j_aload_n hX 0 dX9_keep_13 rfl rfl ?_
    refine j_getS (k := 8) hX hfl cbX9 ty0 (by decide) rfl wd412 rfl sb0_8 dX9_keep_14 ?_
    refine j_getI (k := 1) hX hE cbX0 ty53 pc53 (by decide) rfl wd385 rfl dX9_keep_17 ?_
    refine j_iconst hX dX9_keep_20 (rc rfl) ?_
    refine j_isub hX dX9_keep_21 ?_
    refine j_callSI hX mwX9_between msX9_between wd463 hyX9_between (by omega) (by decide) ⟨Nat.zero_le _, Nat.zero_le _⟩ dX9_keep_22 (s_X9_between hfl rfl) npX9_between rfl (Nat.le_of_ble_eq_true rfl) ?_
    refine j_if_ne hX (tgt := 30) dX9_keep_25 (by decide) (fun hc => ?_) (fun hc => ?_)
    · rw [if_neg hc] at h
      refine j_aload_n hX 0 dX9_keep_30 rfl rfl ?_
      refine j_getS (k := 2) hX hfl cbX9 ty0 (by decide) rfl wd406 rfl sb0_2 dX9_keep_31 ?_
      refine j_iload_n hX 1 dX9_keep_34 rfl rfl ?_
      refine j_iload_n hX 2 dX9_keep_35 rfl rfl ?_
      obtain ⟨S1, h1, h⟩ := bs h
      refine j_callVV hX mwX7_hold miX7_hold wd1078 cbX7 ty19 hyX7_hold (by omega) (by decide) ⟨Nat.zero_le _, Nat.zero_le _⟩ dX9_keep_36 (s_X7_hold hfl hE h1) npX7_hold rfl (Nat.le_of_ble_eq_true rfl) ?_
      refine j_iconst hX dX9_keep_39 (rc rfl) ?_
      cases h
      exact j_iret hX hR dX9_keep_40
    · rw [if_pos hc] at h
      refine j_iconst hX dX9_keep_28 (rc rfl) ?_
      cases h
      exact j_iret hX hR dX9_keep_29
theorem s_X9_row {g : G0} {B : Nat → Nat} {n : Nat} {E : Mem → Mem} {a1 : Int} {a2 : Int} {a3 : Int} {S : Mem} {r : Int} {S' : Mem} (hfl : g.2.2.2.2 = true) (hE : Lens E PC) (h : g_X9_row a1 a2 a3 S = some (r, S')) : Cn g B n yX9_row cX9_row 4 (some .int) 3 [vR 0, vI (a1), vI (a2), vI (a3)] (E S) (QcI g B n r (E S')) := by
  refine Cn.of (by decide +kernel) (Nat.le_of_ble_eq_true rfl) (fun X hg hnl hX hR => ?_)
  subst hg
  have hX : Ctx X cX9_row "TelegramFeelings" 3 := hX
  unfold g_X9_row at h
  show JW X B n 0 0 0 [(0, vR 0), (1, vI (a1)), (2, vI (a2)), (3, vI (a3))] [] (E S) (QM X (QcI (gX X) B n r (E S')))
  refine j_aload_n hX 0 dX9_row_0 rfl rfl ?_
  refine j_getS (k := 2) hX hfl cbX9 ty0 (by decide) rfl wd406 rfl sb0_2 dX9_row_1 ?_
  refine j_iload_n hX 1 dX9_row_4 rfl rfl ?_
  refine j_callVI hX mwX7_has miX7_has wd1077 cbX7 ty19 hyX7_has (by omega) (by decide) ⟨Nat.zero_le _, Nat.zero_le _⟩ dX9_row_5 (s_X7_has hfl rfl) npX7_has rfl (Nat.le_of_ble_eq_true rfl) ?_
  refine j_if_eq hX (tgt := 26) dX9_row_8 (by decide) (fun hc => ?_) (fun hc => ?_)
  · rw [if_pos hc] at h
    refine j_iconst hX dX9_row_26 (rc rfl) ?_
    cases h
    exact j_iret hX hR dX9_row_27
  · rw [if_neg hc] at h
    refine j_iload_n hX 2 dX9_row_11 rfl rfl ?_
    refine j_iconst hX dX9_row_12 (rc rfl) ?_
    refine j_iconst hX dX9_row_13 (rc rfl) ?_
    refine j_callSI hX mwX9_between msX9_between wd463 hyX9_between (by omega) (by decide) ⟨Nat.zero_le _, Nat.zero_le _⟩ dX9_row_14 (s_X9_between hfl rfl) npX9_between rfl (Nat.le_of_ble_eq_true rfl) ?_
    refine j_if_eq hX (tgt := 26) dX9_row_17 (by decide) (fun hc => ?_) (fun hc => ?_)
    · rw [if_pos hc] at h
      refine j_iconst hX dX9_row_26 (rc rfl) ?_
      cases h
      exact j_iret hX hR dX9_row_27
    · rw [if_neg hc] at h
      refine j_iload_n hX 3 dX9_row_20 rfl rfl ?_
      refine j_bipush hX dX9_row_21 (rc rfl) (by decide) ?_
      refine j_icmp_le hX (tgt := 28) dX9_row_23 (by decide) (fun hc => ?_) (fun hc => ?_)
      · rw [if_pos hc] at h
        refine j_iload_n hX 3 dX9_row_28 rfl rfl ?_
        refine j_if_ge hX (tgt := 35) dX9_row_29 (by decide) (fun hc => ?_) (fun hc => ?_)
        · rw [if_pos hc] at h
          refine j_aload_n hX 0 dX9_row_35 rfl rfl ?_
          refine j_getS (k := 2) hX hfl cbX9 ty0 (by decide) rfl wd406 rfl sb0_2 dX9_row_36 ?_
          refine j_iload_n hX 1 dX9_row_39 rfl rfl ?_
          refine j_iload_n hX 2 dX9_row_40 rfl rfl ?_
          refine j_iload_n hX 3 dX9_row_41 rfl rfl ?_
          obtain ⟨S1, h1, h⟩ := bs h
          refine j_callVV hX mwX7_lay miX7_lay wd1086 cbX7 ty19 hyX7_lay (by omega) (by decide) ⟨Nat.zero_le _, Nat.zero_le _⟩ dX9_row_42 (s_X7_lay hfl hE h1) npX7_lay rfl (Nat.le_of_ble_eq_true rfl) ?_
          refine j_iconst hX dX9_row_45 (rc rfl) ?_
          cases h
          exact j_iret hX hR dX9_row_46
        · rw [if_neg hc] at h
          refine j_bipush hX dX9_row_32 (rc rfl) (by decide) ?_
          cases h
          exact j_iret hX hR dX9_row_34
      · rw [if_neg hc] at h
        refine j_iconst hX dX9_row_26 (rc rfl) ?_
        cases h
        exact j_iret hX hR dX9_row_27
theorem s_X9_put {g : G0} {B : Nat → Nat} {n : Nat} {E : Mem → Mem} {a1 : Int} {a2 : Int} {a3 : Int} {S : Mem} {r : Int} {S' : Mem} (hfl : g.2.2.2.2 = true) (hE : Lens E PC) (h : g_X9_put a1 a2 a3 S = some (r, S')) : Cn g B n yX9_put cX9_put 6 (some .int) 3 [vR 0, vI (a1), vI (a2), vL (a3)] (E S) (QcI g B n r (E S')) := by
  refine Cn.of (by decide +kernel) (Nat.le_of_ble_eq_true rfl) (fun X hg hnl hX hR => ?_)
  subst hg
  have hX : Ctx X cX9_put "TelegramFeelings" 3 := hX
  unfold g_X9_put at h
  show JW X B n 0 0 0 [(0, vR 0), (1, vI (a1)), (2, vI (a2)), (3, vL (a3))] [] (E S) (QM X (QcI (gX X) B n r (E S')))
  refine j_aload_n hX 0 dX9_put_0 rfl rfl ?_
  refine j_getS (k := 2) hX hfl cbX9 ty0 (by decide) rfl wd406 rfl sb0_2 dX9_put_1 ?_
  refine j_iload_n hX 1 dX9_put_4 rfl rfl ?_
  refine j_iload_n hX 2 dX9_put_5 rfl rfl ?_
  obtain ⟨x1, h1, h⟩ := bs h
  refine j_callVI hX mwX7_placeRefusal miX7_placeRefusal wd1095 cbX7 ty19 hyX7_placeRefusal (by omega) (by decide) ⟨Nat.zero_le _, Nat.zero_le _⟩ dX9_put_6 (s_X7_placeRefusal hfl hE h1) npX7_placeRefusal rfl (Nat.le_of_ble_eq_true rfl) ?_
  refine j_istore (L' := [(5, vI (x1)), (0, vR 0), (1, vI (a1)), (2, vI (a2)), (3, vL (a3))]) hX dX9_put_9 hnl (by decide) rfl ?_
  refine j_iload hX 0 dX9_put_11 rfl ?_
  refine j_if_eq hX (tgt := 19) dX9_put_13 (by decide) (fun hc => ?_) (fun hc => ?_)
  · rw [if_pos hc] at h
    refine j_aload_n hX 1 dX9_put_19 rfl rfl ?_
    refine j_getS (k := 2) hX hfl cbX9 ty0 (by decide) rfl wd406 rfl sb0_2 dX9_put_20 ?_
    refine j_iload_n hX 2 dX9_put_23 rfl rfl ?_
    refine j_iload_n hX 3 dX9_put_24 rfl rfl ?_
    refine j_lload_n hX 4 dX9_put_25 rfl rfl ?_
    obtain ⟨S2, h1, h⟩ := bs h
    refine j_callVV hX mwX7_store miX7_store wd1099 cbX7 ty19 hyX7_store (by omega) (by decide) ⟨Nat.zero_le _, Nat.zero_le _⟩ dX9_put_26 (s_X7_store hfl hE h1) npX7_store rfl (Nat.le_of_ble_eq_true rfl) ?_
    refine j_iconst hX dX9_put_29 (rc rfl) ?_
    cases h
    exact j_iret hX hR dX9_put_30
  · rw [if_neg hc] at h
    refine j_iload hX 0 dX9_put_16 rfl ?_
    cases h
    exact j_iret hX hR dX9_put_18
theorem s_X9_element {g : G0} {B : Nat → Nat} {n : Nat} {E : Mem → Mem} {a1 : Int} {a2 : Int} {S : Mem} {r : Int} (hfl : g.2.2.2.2 = true) (hE : Lens E PC) (h : g_X9_element a1 a2 S = some r) : Cn g B n yX9_element cX9_element 3 (some .long) 3 [vR 0, vI (a1), vI (a2)] (E S) (QcL g B n r (E S)) := by
  refine Cn.of (by decide +kernel) (Nat.le_of_ble_eq_true rfl) (fun X hg hnl hX hR => ?_)
  subst hg
  have hX : Ctx X cX9_element "TelegramFeelings" 3 := hX
  unfold g_X9_element at h
  show JW X B n 0 0 0 [(0, vR 0), (1, vI (a1)), (2, vI (a2))] [] (E S) (QM X (QcL (gX X) B n r (E S)))
  refine j_aload_n hX 0 dX9_element_0 rfl rfl ?_
  refine j_getS (k := 2) hX hfl cbX9 ty0 (by decide) rfl wd406 rfl sb0_2 dX9_element_1 ?_
  refine j_iload_n hX 1 dX9_element_4 rfl rfl ?_
  refine j_iload_n hX 2 dX9_element_5 rfl rfl ?_
  obtain ⟨x1, h1, h⟩ := bs h
  refine j_callVI hX mwX7_placeRefusal miX7_placeRefusal wd1095 cbX7 ty19 hyX7_placeRefusal (by omega) (by decide) ⟨Nat.zero_le _, Nat.zero_le _⟩ dX9_element_6 (s_X7_placeRefusal hfl hE h1) npX7_placeRefusal rfl (Nat.le_of_ble_eq_true rfl) ?_
  refine j_if_ne hX (tgt := 24) dX9_element_9 (by decide) (fun hc => ?_) (fun hc => ?_)
  · rw [if_neg hc] at h
    refine j_ldc2 (z := (-9223372036854775808)) hX wd868 (by decide) dX9_element_24 (rcl rfl) ?_
    cases h
    exact j_lret hX hR dX9_element_27
  · rw [if_pos hc] at h
    refine j_aload_n hX 0 dX9_element_12 rfl rfl ?_
    refine j_getS (k := 2) hX hfl cbX9 ty0 (by decide) rfl wd406 rfl sb0_2 dX9_element_13 ?_
    refine j_iload_n hX 1 dX9_element_16 rfl rfl ?_
    refine j_iload_n hX 2 dX9_element_17 rfl rfl ?_
    obtain ⟨x2, h1, h⟩ := bs h
    refine j_callVL hX mwX7_at miX7_at wd480 cbX7 ty19 hyX7_at (by omega) (by decide) ⟨Nat.zero_le _, Nat.zero_le _⟩ dX9_element_18 (s_X7_at hfl hE h1) npX7_at rfl (Nat.le_of_ble_eq_true rfl) ?_
    refine j_goto hX (tgt := 27) dX9_element_21 (by decide) ?_
    cases h
    exact j_lret hX hR dX9_element_27
theorem s_X9_shift {g : G0} {B : Nat → Nat} {n : Nat} {E : Mem → Mem} {a1 : Int} {a2 : Int} {a3 : Int} {a4 : Int} {a5 : Int} {S : Mem} {r : Int} {S' : Mem} (hfl : g.2.2.2.2 = true) (hE : Lens E PC) (h : g_X9_shift a1 a2 a3 a4 a5 S = some (r, S')) : Cn g B n yX9_shift cX9_shift 6 (some .int) 3 [vR 0, vI (a1), vI (a2), vI (a3), vI (a4), vI (a5)] (E S) (QcI g B n r (E S')) := by
  refine Cn.of (by decide +kernel) (Nat.le_of_ble_eq_true rfl) (fun X hg hnl hX hR => ?_)
  subst hg
  have hX : Ctx X cX9_shift "TelegramFeelings" 3 := hX
  unfold g_X9_shift at h
  show JW X B n 0 0 0 [(0, vR 0), (1, vI (a1)), (2, vI (a2)), (3, vI (a3)), (4, vI (a4)), (5, vI (a5))] [] (E S) (QM X (QcI (gX X) B n r (E S')))
  refine j_aload_n hX 0 dX9_shift_0 rfl rfl ?_
  refine j_getS (k := 2) hX hfl cbX9 ty0 (by decide) rfl wd406 rfl sb0_2 dX9_shift_1 ?_
  refine j_iload_n hX 1 dX9_shift_4 rfl rfl ?_
  refine j_iload_n hX 2 dX9_shift_5 rfl rfl ?_
  refine j_iload_n hX 3 dX9_shift_6 rfl rfl ?_
  refine j_iload hX 4 dX9_shift_7 rfl ?_
  refine j_iload hX 5 dX9_shift_9 rfl ?_
  obtain ⟨x2, S1, h1, h⟩ := bd2_s h
  refine j_callVI hX mwX7_move miX7_move wd1114 cbX7 ty19 hyX7_move (by omega) (by decide) ⟨Nat.zero_le _, Nat.zero_le _⟩ dX9_shift_11 (s_X7_move hfl hE h1) npX7_move rfl (Nat.le_of_ble_eq_true rfl) ?_
  cases h
  exact j_iret hX hR dX9_shift_14
theorem s_X9_taken {g : G0} {B : Nat → Nat} {n : Nat} {E : Mem → Mem} {a1 : Int} {a2 : Int} {S : Mem} {r : Int} (hfl : g.2.2.2.2 = true) (hE : Lens E PC) (h : g_X9_taken a1 a2 S = some r) : Cn g B n yX9_taken cX9_taken 5 (some .int) 3 [vR 0, vI (a1), vI (a2)] (E S) (QcI g B n r (E S)) := by
  refine Cn.of (by decide +kernel) (Nat.le_of_ble_eq_true rfl) (fun X hg hnl hX hR => ?_)
  subst hg
  have hX : Ctx X cX9_taken "TelegramFeelings" 3 := hX
  unfold g_X9_taken at h
  show JW X B n 0 0 0 [(0, vR 0), (1, vI (a1)), (2, vI (a2))] [] (E S) (QM X (QcI (gX X) B n r (E S)))
  refine j_iload_n hX 2 dX9_taken_0 rfl rfl ?_
  refine j_iconst hX dX9_taken_1 (rc rfl) ?_
  refine j_bipush hX dX9_taken_2 (rc rfl) (by decide) ?_
  refine j_callSI hX mwX9_between msX9_between wd463 hyX9_between (by omega) (by decide) ⟨Nat.zero_le _, Nat.zero_le _⟩ dX9_taken_4 (s_X9_between hfl rfl) npX9_between rfl (Nat.le_of_ble_eq_true rfl) ?_
  refine j_if_ne hX (tgt := 12) dX9_taken_7 (by decide) (fun hc => ?_) (fun hc => ?_)
  · rw [if_neg hc] at h
    refine j_aload_n hX 0 dX9_taken_12 rfl rfl ?_
    refine j_getS (k := 2) hX hfl cbX9 ty0 (by decide) rfl wd406 rfl sb0_2 dX9_taken_13 ?_
    refine j_iload_n hX 1 dX9_taken_16 rfl rfl ?_
    refine j_iconst hX dX9_taken_17 (rc rfl) ?_
    obtain ⟨x1, h1, h⟩ := bs h
    refine j_callVI hX mwX7_refusal miX7_refusal wd464 cbX7 ty19 hyX7_refusal (by omega) (by decide) ⟨Nat.zero_le _, Nat.zero_le _⟩ dX9_taken_18 (s_X7_refusal hfl hE h1) npX7_refusal rfl (Nat.le_of_ble_eq_true rfl) ?_
    refine j_istore_n (L' := [(3, vI (x1)), (0, vR 0), (1, vI (a1)), (2, vI (a2))]) hX dX9_taken_21 rfl hnl (by decide) rfl ?_
    refine j_iload_n hX 0 dX9_taken_22 rfl rfl ?_
    refine j_if_eq hX (tgt := 28) dX9_taken_23 (by decide) (fun hc => ?_) (fun hc => ?_)
    · rw [if_pos hc] at h
      refine j_aload_n hX 1 dX9_taken_28 rfl rfl ?_
      refine j_getS (k := 8) hX hfl cbX9 ty0 (by decide) rfl wd412 rfl sb0_8 dX9_taken_29 ?_
      refine j_aload_n hX 1 dX9_taken_32 rfl rfl ?_
      refine j_getS (k := 2) hX hfl cbX9 ty0 (by decide) rfl wd406 rfl sb0_2 dX9_taken_33 ?_
      refine j_iload_n hX 2 dX9_taken_36 rfl rfl ?_
      obtain ⟨x2, h1, h⟩ := bs h
      refine j_callVI hX mwX7_bodyOn miX7_bodyOn wd1123 cbX7 ty19 hyX7_bodyOn (by omega) (by decide) ⟨Nat.zero_le _, Nat.zero_le _⟩ dX9_taken_37 (s_X7_bodyOn hfl hE h1) npX7_bodyOn rfl (Nat.le_of_ble_eq_true rfl) ?_
      obtain ⟨x3, h1, h⟩ := bs h
      refine j_callVI hX mwX0_kindOf miX0_kindOf wd1127 cbX0 ty53 hyX0_kindOf (by omega) (by decide) ⟨Nat.zero_le _, Nat.zero_le _⟩ dX9_taken_40 (s_X0_kindOf hfl hE h1) npX0_kindOf rfl (Nat.le_of_ble_eq_true rfl) ?_
      refine j_istore (L' := [(4, vI (x3)), (3, vI (x1)), (0, vR 0), (1, vI (a1)), (2, vI (a2))]) hX dX9_taken_43 hnl (by decide) rfl ?_
      refine j_iload hX 0 dX9_taken_45 rfl ?_
      refine j_iload_n hX 4 dX9_taken_47 rfl rfl ?_
      obtain ⟨x4, h1, h⟩ := bs h
      refine j_callSI hX mwX0_isUnder msX0_isUnder wd1128 hyX0_isUnder (by omega) (by decide) ⟨Nat.zero_le _, Nat.zero_le _⟩ dX9_taken_48 (s_X0_isUnder hfl hE h1) npX0_isUnder rfl (Nat.le_of_ble_eq_true rfl) ?_
      refine j_if_eq hX (tgt := 59) dX9_taken_51 (by decide) (fun hc => ?_) (fun hc => ?_)
      · rw [if_pos hc] at h
        refine j_bipush hX dX9_taken_59 (rc rfl) (by decide) ?_
        cases h
        exact j_iret hX hR dX9_taken_61
      · rw [if_neg hc] at h
        refine j_iload hX 0 dX9_taken_54 rfl ?_
        refine j_goto hX (tgt := 61) dX9_taken_56 (by decide) ?_
        cases h
        exact j_iret hX hR dX9_taken_61
    · rw [if_neg hc] at h
      refine j_iload_n hX 0 dX9_taken_26 rfl rfl ?_
      cases h
      exact j_iret hX hR dX9_taken_27
  · rw [if_pos hc] at h
    refine j_iconst hX dX9_taken_10 (rc rfl) ?_
    cases h
    exact j_iret hX hR dX9_taken_11
theorem s_X9_count {g : G0} {B : Nat → Nat} {n : Nat} {E : Mem → Mem} {a1 : Int} {S : Mem} {r : Int} (hfl : g.2.2.2.2 = true) (hE : Lens E PC) (h : g_X9_count a1 S = r) : Cn g B n yX9_count cX9_count 2 (some .int) 1 [vR 0, vI (a1)] (E S) (QcI g B n r (E S)) := by
  refine Cn.of (by decide +kernel) (Nat.le_of_ble_eq_true rfl) (fun X hg hnl hX hR => ?_)
  subst hg
  have hX : Ctx X cX9_count "TelegramFeelings" 1 := hX
  unfold g_X9_count at h
  show JW X B n 0 0 0 [(0, vR 0), (1, vI (a1))] [] (E S) (QM X (QcI (gX X) B n r (E S)))
  refine j_iload_n hX 1 dX9_count_0 rfl rfl ?_
  by_cases hc0 : a1 = 0
  · rw [if_pos hc0] at h
    refine j_tin hX (tgt := 40) dX9_count_1 hc0 (by decide) (by decide) rfl (by decide) ?_
    refine j_aload_n hX 0 dX9_count_40 rfl rfl ?_
    refine j_getS (k := 0) hX hfl cbX9 ty0 (by decide) rfl wd404 rfl sb0_0 dX9_count_41 ?_
    refine j_getI (k := 1) hX hE cbX5 ty1 pc1 (by decide) rfl wd144 rfl dX9_count_44 ?_
    subst h
    exact j_iret hX hR dX9_count_47
  · rw [if_neg hc0] at h
    by_cases hc1 : a1 = 1
    · rw [if_pos hc1] at h
      refine j_tin hX (tgt := 48) dX9_count_1 hc1 (by decide) (by decide) rfl (by decide) ?_
      refine j_aload_n hX 0 dX9_count_48 rfl rfl ?_
      refine j_getS (k := 0) hX hfl cbX9 ty0 (by decide) rfl wd404 rfl sb0_0 dX9_count_49 ?_
      refine j_getI (k := 2) hX hE cbX5 ty1 pc1 (by decide) rfl wd147 rfl dX9_count_52 ?_
      subst h
      exact j_iret hX hR dX9_count_55
    · rw [if_neg hc1] at h
      by_cases hc2 : a1 = 2
      · rw [if_pos hc2] at h
        refine j_tin hX (tgt := 56) dX9_count_1 hc2 (by decide) (by decide) rfl (by decide) ?_
        refine j_aload_n hX 0 dX9_count_56 rfl rfl ?_
        refine j_getS (k := 1) hX hfl cbX9 ty0 (by decide) rfl wd405 rfl sb0_1 dX9_count_57 ?_
        refine j_getI (k := 2) hX hE cbX4 ty13 pc13 (by decide) rfl wd181 rfl dX9_count_60 ?_
        subst h
        exact j_iret hX hR dX9_count_63
      · rw [if_neg hc2] at h
        by_cases hc3 : a1 = 3
        · rw [if_pos hc3] at h
          refine j_tin hX (tgt := 64) dX9_count_1 hc3 (by decide) (by decide) rfl (by decide) ?_
          refine j_aload_n hX 0 dX9_count_64 rfl rfl ?_
          refine j_getS (k := 7) hX hfl cbX9 ty0 (by decide) rfl wd411 rfl sb0_7 dX9_count_65 ?_
          refine j_getI (k := 5) hX hE cbX1 ty48 pc48 (by decide) rfl wd360 rfl dX9_count_68 ?_
          subst h
          exact j_iret hX hR dX9_count_71
        · rw [if_neg hc3] at h
          by_cases hc4 : a1 = 4
          · rw [if_pos hc4] at h
            refine j_tin hX (tgt := 72) dX9_count_1 hc4 (by decide) (by decide) rfl (by decide) ?_
            refine j_aload_n hX 0 dX9_count_72 rfl rfl ?_
            refine j_getS (k := 8) hX hfl cbX9 ty0 (by decide) rfl wd412 rfl sb0_8 dX9_count_73 ?_
            refine j_getI (k := 1) hX hE cbX0 ty53 pc53 (by decide) rfl wd385 rfl dX9_count_76 ?_
            subst h
            exact j_iret hX hR dX9_count_79
          · rw [if_neg hc4] at h
            by_cases hc5 : a1 = 5
            · rw [if_pos hc5] at h
              refine j_tin hX (tgt := 80) dX9_count_1 hc5 (by decide) (by decide) rfl (by decide) ?_
              refine j_aload_n hX 0 dX9_count_80 rfl rfl ?_
              refine j_getS (k := 8) hX hfl cbX9 ty0 (by decide) rfl wd412 rfl sb0_8 dX9_count_81 ?_
              refine j_getI (k := 3) hX hE cbX0 ty53 pc53 (by decide) rfl wd388 rfl dX9_count_84 ?_
              subst h
              exact j_iret hX hR dX9_count_87
            · rw [if_neg hc5] at h
              refine j_tout hX (tgt := 88) dX9_count_1 (by omega) (by decide) ?_
              refine j_iconst hX dX9_count_88 (rc rfl) ?_
              subst h
              exact j_iret hX hR dX9_count_89
theorem sl_J7_fill_53178_5 {X : K0} {B : Nat → Nat} {n : Nat} {E : Mem → Mem} {S' : Mem} (hX : Ctx X cJ7_fill_53178 "java/util/Arrays" 1) (hR : CR X none) (hnl : X.2.2.2.2.2.2.2.2.2.2.2.2.2.2 = 4) (hE : Lens E PC)  {v0 : Nat} {v1 : Int} {v3 : Int}  : ∀ (fu : Nat) (v2 : Int) (S : Mem), g_J7_fill_53178_L5 v0 v1 v3 fu v2 S = some S' → JW X B n 0 0 5 [(0, vR v0), (1, vI (v1)), (2, vI (v2)), (3, vI (v3))] [] (E S) (QM X (QcV (gX X) B n (E S'))) := by
  intro fu
  induction fu with
  | zero =>
    intro v2 S h
    rw [g_J7_fill_53178_L5] at h
    cases h
  | succ fu ih =>
    intro v2 S h
    rw [g_J7_fill_53178_L5] at h
    refine j_iload_n hX 2 dJ7_fill_53178_5 rfl rfl ?_
    refine j_iload_n hX 3 dJ7_fill_53178_6 rfl rfl ?_
    refine j_icmp_ge hX (tgt := 20) dJ7_fill_53178_7 (by decide) (fun hc => ?_) (fun hc => ?_)
    · rw [if_pos hc] at h
      cases h
      exact j_vret hX hR dJ7_fill_53178_20
    · rw [if_neg hc] at h
      refine j_aload_n hX 0 dJ7_fill_53178_10 rfl rfl ?_
      refine j_iload_n hX 2 dJ7_fill_53178_11 rfl rfl ?_
      refine j_iload_n hX 1 dJ7_fill_53178_12 rfl rfl ?_
      obtain ⟨S2, hv, h⟩ := bs h
      refine j_iastD hX hE (fun _ h => h) hv dJ7_fill_53178_13 ?_
      refine j_iinc (L' := [(2, vI (w32 (v2 + 1))), (0, vR v0), (1, vI (v1)), (3, vI (v3))]) hX 2 dJ7_fill_53178_14 hnl (by decide) rfl rfl ?_
      refine j_goto hX (tgt := 5) dJ7_fill_53178_17 (by decide) ?_
      refine j_sub [1, 2, 0, 3] rfl ?_
      exact ih _ _ h
theorem s_J7_fill_53178 {g : G0} {B : Nat → Nat} {n : Nat} {E : Mem → Mem} {a1 : Nat} {a2 : Int} {S : Mem} {S' : Mem} (hE : Lens E PC) (h : g_J7_fill_53178 a1 a2 S = some S') : Cn g B n yJ7_fill_53178 cJ7_fill_53178 4 none 1 [vR a1, vI (a2)] (E S) (QcV g B n (E S')) := by
  refine Cn.of (by decide +kernel) (Nat.le_of_ble_eq_true rfl) (fun X hg hnl hX hR => ?_)
  subst hg
  have hX : Ctx X cJ7_fill_53178 "java/util/Arrays" 1 := hX
  unfold g_J7_fill_53178 at h
  show JW X B n 0 0 0 [(0, vR a1), (1, vI (a2))] [] (E S) (QM X (QcV (gX X) B n (E S')))
  refine j_iconst hX dJ7_fill_53178_0 (rc rfl) ?_
  refine j_istore_n (L' := [(2, vI (0)), (0, vR a1), (1, vI (a2))]) hX dJ7_fill_53178_1 rfl hnl (by decide) rfl ?_
  refine j_aload_n hX 1 dJ7_fill_53178_2 rfl rfl ?_
  obtain ⟨x1, hv, h⟩ := bs h
  refine j_alenD hX (Or.inl rfl) hv dJ7_fill_53178_3 ?_
  refine j_istore_n (L' := [(3, vI (x1)), (2, vI (0)), (0, vR a1), (1, vI (a2))]) hX dJ7_fill_53178_4 rfl hnl (by decide) rfl ?_
  refine j_sub [2, 3, 1, 0] rfl ?_
  refine sl_J7_fill_53178_5 hX hR hnl hE  _ _ _ h
