/-! THE CONSTRUCTORS -/
theorem ldr_c {S : Mem} {a N k v : Nat} (h : k < N) (hg : gR S a k = some v) : ldr S a N (k : Int) = some v := by
  unfold ldr
  rw [if_pos ⟨by omega, by omega⟩]
  exact hg
/-- every place of a row of N ints becomes v -/
def fillM (M : Mem) (a N : Nat) (v : Int) : Mem := (fun c k => if c = a ∧ k < N then v else M.1 c k, M.2)
theorem tyc_lt : ∀ a, a < 56 → (tyc a).2 < 100000 := by decide +kernel
theorem fillL (a N : Nat) (v : Int) (h : a < 56) (ht : tyc a = (1, N)) (hN : N < 100000) : ∀ (m fu : Nat) (S : Mem), m ≤ N → m < fu → g_J7_fill_53178_L5 a v N fu ((N - m : Nat) : Int) S = some (fun c k => if c = a ∧ N - m ≤ k ∧ k < N then v else S.1 c k, S.2) := by
  intro m
  induction m with
  | zero =>
    intro fu S _ hf
    obtain ⟨fu, rfl⟩ : ∃ k, fu = k + 1 := ⟨fu - 1, by omega⟩
    unfold g_J7_fill_53178_L5
    rw [if_pos (show (N : Int) ≤ ((N - 0 : Nat) : Int) from Int.le_refl _)]
    refine congrArg some (Prod.ext ?_ rfl)
    funext c k
    exact (if_neg (by omega)).symm
  | succ m ih =>
    intro fu S hm hf
    obtain ⟨fu, rfl⟩ : ∃ k, fu = k + 1 := ⟨fu - 1, by omega⟩
    have v1 : ¬ (N : Int) ≤ ((N - (m + 1) : Nat) : Int) := by omega
    have e : std S 1 a ((N - (m + 1) : Nat) : Int) v = some (sI S a (N - (m + 1)) v) := by
      unfold std
      rw [ht, if_pos ⟨rfl, h, by omega, by show ((N - (m + 1) : Nat) : Int) < (N : Int); omega⟩]
      rfl
    have e2 : w32 (((N - (m + 1) : Nat) : Int) + 1) = ((N - m : Nat) : Int) := by
      rw [w32_id (by unfold r32; omega)]
      omega
    unfold g_J7_fill_53178_L5
    rw [if_neg v1, e]
    show g_J7_fill_53178_L5 a v N fu (w32 (((N - (m + 1) : Nat) : Int) + 1)) (sI S a (N - (m + 1)) v) = _
    rw [e2, ih fu _ (by clear e2; omega) (by clear e2; omega)]
    clear e2
    refine congrArg some (Prod.ext ?_ rfl)
    funext c k
    show (if c = a ∧ N - m ≤ k ∧ k < N then v else if c = a ∧ k = N - (m + 1) then v else S.1 c k) = if c = a ∧ N - (m + 1) ≤ k ∧ k < N then v else S.1 c k
    (repeat' split) <;> first | rfl | omega
theorem bS1 {α β : Type} (a : α) (f : α → Option β) : (some a).bind f = f a := rfl
theorem fill_ok (M : Mem) (a N : Nat) (v : Int) (h : a < 56) (ht : tyc a = (1, N)) : g_J7_fill_53178 a v M = some (fillM M a N v) := by
  have hN : N < 100000 := by have := tyc_lt a h; rw [ht] at this; exact this
  have k := fillL a N v h ht hN N FU M (Nat.le_refl _) (by unfold FU; exact hN)
  rw [Nat.sub_self, show ((0 : Nat) : Int) = 0 from rfl] at k
  unfold g_J7_fill_53178 lnd
  rw [ht, if_pos ⟨rfl, hN⟩, bS1, k]
  refine congrArg some (Prod.ext ?_ rfl)
  funext c j
  show (if c = a ∧ 0 ≤ j ∧ j < N then v else M.1 c j) = if c = a ∧ j < N then v else M.1 c j
  (repeat' split) <;> first | rfl | omega
theorem npX5_init : (parseMethodDescriptor yX5_init.desc).map (fun d => d.parameters.length) = some 0 := by decide +kernel
theorem hyX5_init : yX5_init.cls ≠ "java/lang/invoke/MethodHandle" ∧ yX5_init.cls ≠ "java/lang/invoke/VarHandle" := by decide +kernel
theorem npX4_init : (parseMethodDescriptor yX4_init.desc).map (fun d => d.parameters.length) = some 1 := by decide +kernel
theorem hyX4_init : yX4_init.cls ≠ "java/lang/invoke/MethodHandle" ∧ yX4_init.cls ≠ "java/lang/invoke/VarHandle" := by decide +kernel
theorem npX7_init : (parseMethodDescriptor yX7_init.desc).map (fun d => d.parameters.length) = some 0 := by decide +kernel
theorem hyX7_init : yX7_init.cls ≠ "java/lang/invoke/MethodHandle" ∧ yX7_init.cls ≠ "java/lang/invoke/VarHandle" := by decide +kernel
theorem npX8_init : (parseMethodDescriptor yX8_init.desc).map (fun d => d.parameters.length) = some 2 := by decide +kernel
theorem hyX8_init : yX8_init.cls ≠ "java/lang/invoke/MethodHandle" ∧ yX8_init.cls ≠ "java/lang/invoke/VarHandle" := by decide +kernel
theorem npX6_init : (parseMethodDescriptor yX6_init.desc).map (fun d => d.parameters.length) = some 2 := by decide +kernel
theorem hyX6_init : yX6_init.cls ≠ "java/lang/invoke/MethodHandle" ∧ yX6_init.cls ≠ "java/lang/invoke/VarHandle" := by decide +kernel
theorem npX3_init : (parseMethodDescriptor yX3_init.desc).map (fun d => d.parameters.length) = some 2 := by decide +kernel
theorem hyX3_init : yX3_init.cls ≠ "java/lang/invoke/MethodHandle" ∧ yX3_init.cls ≠ "java/lang/invoke/VarHandle" := by decide +kernel
theorem npX2_init : (parseMethodDescriptor yX2_init.desc).map (fun d => d.parameters.length) = some 1 := by decide +kernel
theorem hyX2_init : yX2_init.cls ≠ "java/lang/invoke/MethodHandle" ∧ yX2_init.cls ≠ "java/lang/invoke/VarHandle" := by decide +kernel
theorem npX1_init : (parseMethodDescriptor yX1_init.desc).map (fun d => d.parameters.length) = some 1 := by decide +kernel
theorem hyX1_init : yX1_init.cls ≠ "java/lang/invoke/MethodHandle" ∧ yX1_init.cls ≠ "java/lang/invoke/VarHandle" := by decide +kernel
theorem npX0_init : (parseMethodDescriptor yX0_init.desc).map (fun d => d.parameters.length) = some 0 := by decide +kernel
theorem hyX0_init : yX0_init.cls ≠ "java/lang/invoke/MethodHandle" ∧ yX0_init.cls ≠ "java/lang/invoke/VarHandle" := by decide +kernel
theorem npX9_init : (parseMethodDescriptor yX9_init.desc).map (fun d => d.parameters.length) = some 0 := by decide +kernel
theorem hyX9_init : yX9_init.cls ≠ "java/lang/invoke/MethodHandle" ∧ yX9_init.cls ≠ "java/lang/invoke/VarHandle" := by decide +kernel
theorem npX10_init : (parseMethodDescriptor yX10_init.desc).map (fun d => d.parameters.length) = some 0 := by decide +kernel
theorem hyX10_init : yX10_init.cls ≠ "java/lang/invoke/MethodHandle" ∧ yX10_init.cls ≠ "java/lang/invoke/VarHandle" := by decide +kernel
def m_X5_init (M : Mem) : Mem := sI (sI (sR (zT (M) 2 10) 1 0 (some 2)) 11 0 1) 12 0 10
theorem c_X5_init {g : G0} (hf : g.2.2.2.2 = false) (M : Mem) : CnC g 2 13 11 130 yX5_init cX5_init 1 1 [vR 1] M (m_X5_init M) := by
  refine CnC.of (by decide +kernel) rfl (Nat.le_of_ble_eq_true rfl) (fun X B hg hnl hX hR hin hcl hsl => ?_)
  subst hg
  have hX : Ctx X cX5_init "TelegramFeelings$Office" 1 := hX
  have hB : ∀ i, i < 2 → B i = B i := fun _ _ => rfl
  show JW X B 2 0 0 0 [(0, vR 1)] [] M _
  refine j_aload_n hX 0 dX5_init_0 rfl rfl ?_
  refine j_obj hX (by decide) wd137 wd130 wd131 dX5_init_1 rfl ?_
  refine j_aload_n hX 0 dX5_init_4 rfl rfl ?_
  refine j_bipush hX dX5_init_5 (rc rfl) (by decide) ?_
  refine j_bipush hX dX5_init_7 (rc rfl) (by decide) ?_
  refine j_mna_i (N := 10) (K := 12) hX hf rfl rfl (by decide) (by decide) ty2 (by decide +kernel) wd160 wd138 ⟨by rw [hcl]; decide, by rw [hsl]; decide⟩ dX5_init_9 (fun B1 hB1 => ?_)
  have hB := fun i hi => (hB1 i (Nat.lt_of_lt_of_le hi (by decide))).trans (hB i hi)
  clear hB1
  refine j_putRF (E := fun S => S) (P := fun _ => True) (k := 0) hX (Lens.id _) cbX5 ty1 trivial (by decide) rfl wd140 rfl (fun _ => rfl) (fun _ => rfl) (fun q => absurd (hf.symm.trans q) (by decide)) rfl hin rfl dX5_init_13 ?_
  refine j_aload_n hX 0 dX5_init_16 rfl rfl ?_
  refine j_getR (E := fun S => S) (P := fun _ => True) (k := 0) (a := 2) hX (Lens.id _) cbX5 ty1 trivial (by decide) rfl wd140 rfl rfl dX5_init_17 ?_
  refine j_bipush hX dX5_init_20 (rc rfl) (by decide) ?_
  refine j_aald (E := fun S => S) (P := fun _ => True) hX (Lens.id _) ty2 (Or.inl rfl) trivial (ldr_c (k := 8) (v := 11) (by decide) rfl) dX5_init_22 ?_
  refine j_iconst hX dX5_init_23 (rc rfl) ?_
  refine j_iconst hX dX5_init_24 (rc rfl) ?_
  refine j_iast (E := fun S => S) (P := fun _ => True) hX (Lens.id _) ty11 trivial (stk_c (k := 0) (by decide)) dX5_init_25 ?_
  refine j_aload_n hX 0 dX5_init_26 rfl rfl ?_
  refine j_getR (E := fun S => S) (P := fun _ => True) (k := 0) (a := 2) hX (Lens.id _) cbX5 ty1 trivial (by decide) rfl wd140 rfl rfl dX5_init_27 ?_
  refine j_bipush hX dX5_init_30 (rc rfl) (by decide) ?_
  refine j_aald (E := fun S => S) (P := fun _ => True) hX (Lens.id _) ty2 (Or.inl rfl) trivial (ldr_c (k := 9) (v := 12) (by decide) rfl) dX5_init_32 ?_
  refine j_iconst hX dX5_init_33 (rc rfl) ?_
  refine j_bipush hX dX5_init_34 (rc rfl) (by decide) ?_
  refine j_iast (E := fun S => S) (P := fun _ => True) hX (Lens.id _) ty12 trivial (stk_c (k := 0) (by decide)) dX5_init_36 ?_
  exact j_cret hX hR hB dX5_init_37
def m_X4_init (M : Mem) : Mem := sR (sR (zM (sR (zM (sR (zM (sR (zM (sR (zM (M) 14) 13 1 (some 14)) 15) 13 3 (some 15)) 16) 13 5 (some 16)) 17) 13 8 (some 17)) 18) 13 9 (some 18)) 13 0 (some 1)
theorem c_X4_init {g : G0} (hf : g.2.2.2.2 = false) (M : Mem) : CnC g 14 19 5 489 yX4_init cX4_init 2 2 [vR 13, vR 1] M (m_X4_init M) := by
  refine CnC.of (by decide +kernel) rfl (Nat.le_of_ble_eq_true rfl) (fun X B hg hnl hX hR hin hcl hsl => ?_)
  subst hg
  have hX : Ctx X cX4_init "TelegramFeelings$Law" 2 := hX
  have hB : ∀ i, i < 14 → B i = B i := fun _ _ => rfl
  show JW X B 14 0 0 0 [(0, vR 13), (1, vR 1)] [] M _
  refine j_aload_n hX 0 dX4_init_0 rfl rfl ?_
  refine j_obj hX (by decide) wd166 wd130 wd131 dX4_init_1 rfl ?_
  refine j_aload_n hX 0 dX4_init_4 rfl rfl ?_
  refine j_bipush hX dX4_init_5 (rc rfl) (by decide) ?_
  refine j_newa_i (N := 120) hX hf rfl (by decide) ty14 wd160 ⟨by rw [hcl]; decide, by rw [hsl]; decide⟩ dX4_init_7 (fun B1 hB1 => ?_)
  have hB := fun i hi => (hB1 i (Nat.lt_of_lt_of_le hi (by decide))).trans (hB i hi)
  clear hB1
  refine j_putRF (E := fun S => S) (P := fun _ => True) (k := 1) hX (Lens.id _) cbX4 ty13 trivial (by decide) rfl wd179 rfl (fun _ => rfl) (fun _ => rfl) (fun q => absurd (hf.symm.trans q) (by decide)) rfl hin rfl dX4_init_9 ?_
  refine j_aload_n hX 0 dX4_init_12 rfl rfl ?_
  refine j_bipush hX dX4_init_13 (rc rfl) (by decide) ?_
  refine j_newa_i (N := 121) hX hf rfl (by decide) ty15 wd160 ⟨by rw [hcl]; decide, by rw [hsl]; decide⟩ dX4_init_15 (fun B1 hB1 => ?_)
  have hB := fun i hi => (hB1 i (Nat.lt_of_lt_of_le hi (by decide))).trans (hB i hi)
  clear hB1
  refine j_putR (E := fun S => S) (P := fun _ => True) (k := 3) hX (Lens.id _) cbX4 ty13 trivial (by decide) rfl wd182 rfl (fun _ => rfl) (fun _ => rfl) (fun q => absurd (hf.symm.trans q) (by decide)) rfl dX4_init_17 ?_
  refine j_aload_n hX 0 dX4_init_20 rfl rfl ?_
  refine j_bipush hX dX4_init_21 (rc rfl) (by decide) ?_
  refine j_newa_i (N := 121) hX hf rfl (by decide) ty16 wd160 ⟨by rw [hcl]; decide, by rw [hsl]; decide⟩ dX4_init_23 (fun B1 hB1 => ?_)
  have hB := fun i hi => (hB1 i (Nat.lt_of_lt_of_le hi (by decide))).trans (hB i hi)
  clear hB1
  refine j_putR (E := fun S => S) (P := fun _ => True) (k := 5) hX (Lens.id _) cbX4 ty13 trivial (by decide) rfl wd184 rfl (fun _ => rfl) (fun _ => rfl) (fun q => absurd (hf.symm.trans q) (by decide)) rfl dX4_init_25 ?_
  refine j_aload_n hX 0 dX4_init_28 rfl rfl ?_
  refine j_ldcS hX rfl dX4_init_29 (fun t9 hT9 => ?_)
  refine j_lenS hX hT9 wd168 (Nat.le_refl _) ⟨by rw [hcl]; decide, by rw [hsl]; decide⟩ dX4_init_31 rfl ?_
  refine j_newa_i (N := 6) hX hf rfl (by decide) ty17 wd160 ⟨by rw [hcl]; decide, by rw [hsl]; decide⟩ dX4_init_34 (fun B1 hB1 => ?_)
  have hB := fun i hi => (hB1 i (Nat.lt_of_lt_of_le hi (by decide))).trans (hB i hi)
  clear hB1
  refine j_putRF (E := fun S => S) (P := fun _ => True) (k := 8) hX (Lens.id _) cbX4 ty13 trivial (by decide) rfl wd187 rfl (fun _ => rfl) (fun _ => rfl) (fun q => absurd (hf.symm.trans q) (by decide)) rfl hin rfl dX4_init_36 ?_
  refine j_aload_n hX 0 dX4_init_39 rfl rfl ?_
  refine j_bipush hX dX4_init_40 (rc rfl) (by decide) ?_
  refine j_newa_i (N := 121) hX hf rfl (by decide) ty18 wd160 ⟨by rw [hcl]; decide, by rw [hsl]; decide⟩ dX4_init_42 (fun B1 hB1 => ?_)
  have hB := fun i hi => (hB1 i (Nat.lt_of_lt_of_le hi (by decide))).trans (hB i hi)
  clear hB1
  refine j_putRF (E := fun S => S) (P := fun _ => True) (k := 9) hX (Lens.id _) cbX4 ty13 trivial (by decide) rfl wd188 rfl (fun _ => rfl) (fun _ => rfl) (fun q => absurd (hf.symm.trans q) (by decide)) rfl hin rfl dX4_init_44 ?_
  refine j_aload_n hX 0 dX4_init_47 rfl rfl ?_
  refine j_aload_n hX 1 dX4_init_48 rfl rfl ?_
  refine j_putRF (E := fun S => S) (P := fun _ => True) (k := 0) hX (Lens.id _) cbX4 ty13 trivial (by decide) rfl wd178 rfl (fun _ => rfl) (fun _ => rfl) (fun q => absurd (hf.symm.trans q) (by decide)) rfl hin rfl dX4_init_49 ?_
  exact j_cret hX hR hB dX4_init_52
def m_X7_init (M : Mem) : Mem := fillM (sR (zT (sR (zM (sR (zM (sR (zM (M) 20) 19 0 (some 20)) 21) 19 1 (some 21)) 22) 19 2 (some 22)) 23 6) 19 3 (some 23)) 20 6 (-1)
theorem c_X7_init {g : G0} (hf : g.2.2.2.2 = false) (M : Mem) : CnC g 20 30 10 384 yX7_init cX7_init 1 2 [vR 19] M (m_X7_init M) := by
  refine CnC.of (by decide +kernel) rfl (Nat.le_of_ble_eq_true rfl) (fun X B hg hnl hX hR hin hcl hsl => ?_)
  subst hg
  have hX : Ctx X cX7_init "TelegramFeelings$Shelves" 2 := hX
  have hB : ∀ i, i < 20 → B i = B i := fun _ _ => rfl
  show JW X B 20 0 0 0 [(0, vR 19)] [] M _
  refine j_aload_n hX 0 dX7_init_0 rfl rfl ?_
  refine j_obj hX (by decide) wd219 wd130 wd131 dX7_init_1 rfl ?_
  refine j_aload_n hX 0 dX7_init_4 rfl rfl ?_
  refine j_bipush hX dX7_init_5 (rc rfl) (by decide) ?_
  refine j_newa_i (N := 6) hX hf rfl (by decide) ty20 wd160 ⟨by rw [hcl]; decide, by rw [hsl]; decide⟩ dX7_init_7 (fun B1 hB1 => ?_)
  have hB := fun i hi => (hB1 i (Nat.lt_of_lt_of_le hi (by decide))).trans (hB i hi)
  clear hB1
  refine j_putRF (E := fun S => S) (P := fun _ => True) (k := 0) hX (Lens.id _) cbX7 ty19 trivial (by decide) rfl wd225 rfl (fun _ => rfl) (fun _ => rfl) (fun q => absurd (hf.symm.trans q) (by decide)) rfl hin rfl dX7_init_9 ?_
  refine j_aload_n hX 0 dX7_init_12 rfl rfl ?_
  refine j_bipush hX dX7_init_13 (rc rfl) (by decide) ?_
  refine j_newa_i (N := 6) hX hf rfl (by decide) ty21 wd160 ⟨by rw [hcl]; decide, by rw [hsl]; decide⟩ dX7_init_15 (fun B1 hB1 => ?_)
  have hB := fun i hi => (hB1 i (Nat.lt_of_lt_of_le hi (by decide))).trans (hB i hi)
  clear hB1
  refine j_putRF (E := fun S => S) (P := fun _ => True) (k := 1) hX (Lens.id _) cbX7 ty19 trivial (by decide) rfl wd226 rfl (fun _ => rfl) (fun _ => rfl) (fun q => absurd (hf.symm.trans q) (by decide)) rfl hin rfl dX7_init_17 ?_
  refine j_aload_n hX 0 dX7_init_20 rfl rfl ?_
  refine j_bipush hX dX7_init_21 (rc rfl) (by decide) ?_
  refine j_newa_i (N := 6) hX hf rfl (by decide) ty22 wd160 ⟨by rw [hcl]; decide, by rw [hsl]; decide⟩ dX7_init_23 (fun B1 hB1 => ?_)
  have hB := fun i hi => (hB1 i (Nat.lt_of_lt_of_le hi (by decide))).trans (hB i hi)
  clear hB1
  refine j_putRF (E := fun S => S) (P := fun _ => True) (k := 2) hX (Lens.id _) cbX7 ty19 trivial (by decide) rfl wd227 rfl (fun _ => rfl) (fun _ => rfl) (fun q => absurd (hf.symm.trans q) (by decide)) rfl hin rfl dX7_init_25 ?_
  refine j_aload_n hX 0 dX7_init_28 rfl rfl ?_
  refine j_bipush hX dX7_init_29 (rc rfl) (by decide) ?_
  refine j_bipush hX dX7_init_31 (rc rfl) (by decide) ?_
  refine j_mna_l (N := 6) (K := 60) hX hf rfl rfl (by decide) (by decide) ty23 (by decide +kernel) wd238 wd220 ⟨by rw [hcl]; decide, by rw [hsl]; decide⟩ dX7_init_33 (fun B1 hB1 => ?_)
  have hB := fun i hi => (hB1 i (Nat.lt_of_lt_of_le hi (by decide))).trans (hB i hi)
  clear hB1
  refine j_putRF (E := fun S => S) (P := fun _ => True) (k := 3) hX (Lens.id _) cbX7 ty19 trivial (by decide) rfl wd228 rfl (fun _ => rfl) (fun _ => rfl) (fun q => absurd (hf.symm.trans q) (by decide)) rfl hin rfl dX7_init_37 ?_
  refine j_aload_n hX 0 dX7_init_40 rfl rfl ?_
  refine j_getR (E := fun S => S) (P := fun _ => True) (k := 0) (a := 20) hX (Lens.id _) cbX7 ty19 trivial (by decide) rfl wd225 rfl rfl dX7_init_41 ?_
  refine j_iconst hX dX7_init_44 (rc rfl) ?_
  refine j_callSV hX mwJ7_fill_53178 msJ7_fill_53178 wd222 hyJ7_fill_53178 (by omega) (by decide) ⟨by rw [hcl]; decide, by rw [hsl]; decide⟩ dX7_init_45 (s_J7_fill_53178 (E := fun S => S) (Lens.id _) (fill_ok _ 20 6 (-1) (by decide) ty20)) npJ7_fill_53178 rfl (Nat.le_of_ble_eq_true rfl) ?_
  exact j_cret hX hR hB dX7_init_48
def m_X8_init (M : Mem) : Mem := sR (sR (sR (zM (sR (zM (sR (zM (M) 31) 30 2 (some 31)) 32) 30 3 (some 32)) 33) 30 4 (some 33)) 30 0 (some 1)) 30 1 (some 13)
theorem c_X8_init {g : G0} (hf : g.2.2.2.2 = false) (M : Mem) : CnC g 31 34 3 37 yX8_init cX8_init 3 1 [vR 30, vR 1, vR 13] M (m_X8_init M) := by
  refine CnC.of (by decide +kernel) rfl (Nat.le_of_ble_eq_true rfl) (fun X B hg hnl hX hR hin hcl hsl => ?_)
  subst hg
  have hX : Ctx X cX8_init "TelegramFeelings$Telegram" 1 := hX
  have hB : ∀ i, i < 31 → B i = B i := fun _ _ => rfl
  show JW X B 31 0 0 0 [(0, vR 30), (1, vR 1), (2, vR 13)] [] M _
  refine j_aload_n hX 0 dX8_init_0 rfl rfl ?_
  refine j_obj hX (by decide) wd244 wd130 wd131 dX8_init_1 rfl ?_
  refine j_aload_n hX 0 dX8_init_4 rfl rfl ?_
  refine j_bipush hX dX8_init_5 (rc rfl) (by decide) ?_
  refine j_newa_i (N := 12) hX hf rfl (by decide) ty31 wd160 ⟨by rw [hcl]; decide, by rw [hsl]; decide⟩ dX8_init_7 (fun B1 hB1 => ?_)
  have hB := fun i hi => (hB1 i (Nat.lt_of_lt_of_le hi (by decide))).trans (hB i hi)
  clear hB1
  refine j_putRF (E := fun S => S) (P := fun _ => True) (k := 2) hX (Lens.id _) cbX8 ty30 trivial (by decide) rfl wd247 rfl (fun _ => rfl) (fun _ => rfl) (fun q => absurd (hf.symm.trans q) (by decide)) rfl hin rfl dX8_init_9 ?_
  refine j_aload_n hX 0 dX8_init_12 rfl rfl ?_
  refine j_bipush hX dX8_init_13 (rc rfl) (by decide) ?_
  refine j_newa_i (N := 12) hX hf rfl (by decide) ty32 wd160 ⟨by rw [hcl]; decide, by rw [hsl]; decide⟩ dX8_init_15 (fun B1 hB1 => ?_)
  have hB := fun i hi => (hB1 i (Nat.lt_of_lt_of_le hi (by decide))).trans (hB i hi)
  clear hB1
  refine j_putRF (E := fun S => S) (P := fun _ => True) (k := 3) hX (Lens.id _) cbX8 ty30 trivial (by decide) rfl wd248 rfl (fun _ => rfl) (fun _ => rfl) (fun q => absurd (hf.symm.trans q) (by decide)) rfl hin rfl dX8_init_17 ?_
  refine j_aload_n hX 0 dX8_init_20 rfl rfl ?_
  refine j_bipush hX dX8_init_21 (rc rfl) (by decide) ?_
  refine j_newa_i (N := 13) hX hf rfl (by decide) ty33 wd160 ⟨by rw [hcl]; decide, by rw [hsl]; decide⟩ dX8_init_23 (fun B1 hB1 => ?_)
  have hB := fun i hi => (hB1 i (Nat.lt_of_lt_of_le hi (by decide))).trans (hB i hi)
  clear hB1
  refine j_putRF (E := fun S => S) (P := fun _ => True) (k := 4) hX (Lens.id _) cbX8 ty30 trivial (by decide) rfl wd249 rfl (fun _ => rfl) (fun _ => rfl) (fun q => absurd (hf.symm.trans q) (by decide)) rfl hin rfl dX8_init_25 ?_
  refine j_aload_n hX 0 dX8_init_28 rfl rfl ?_
  refine j_aload_n hX 1 dX8_init_29 rfl rfl ?_
  refine j_putRF (E := fun S => S) (P := fun _ => True) (k := 0) hX (Lens.id _) cbX8 ty30 trivial (by decide) rfl wd245 rfl (fun _ => rfl) (fun _ => rfl) (fun q => absurd (hf.symm.trans q) (by decide)) rfl hin rfl dX8_init_30 ?_
  refine j_aload_n hX 0 dX8_init_33 rfl rfl ?_
  refine j_aload_n hX 2 dX8_init_34 rfl rfl ?_
  refine j_putRF (E := fun S => S) (P := fun _ => True) (k := 1) hX (Lens.id _) cbX8 ty30 trivial (by decide) rfl wd246 rfl (fun _ => rfl) (fun _ => rfl) (fun q => absurd (hf.symm.trans q) (by decide)) rfl hin rfl dX8_init_35 ?_
  exact j_cret hX hR hB dX8_init_38
def m_X6_init (M : Mem) : Mem := sR (sR (sI (sR (zM (sR (zM (sR (zM (M) 35) 34 2 (some 35)) 36) 34 3 (some 36)) 37) 34 4 (some 37)) 34 5 (-1)) 34 0 (some 1)) 34 1 (some 13)
theorem c_X6_init {g : G0} (hf : g.2.2.2.2 = false) (M : Mem) : CnC g 35 38 3 576 yX6_init cX6_init 3 1 [vR 34, vR 1, vR 13] M (m_X6_init M) := by
  refine CnC.of (by decide +kernel) rfl (Nat.le_of_ble_eq_true rfl) (fun X B hg hnl hX hR hin hcl hsl => ?_)
  subst hg
  have hX : Ctx X cX6_init "TelegramFeelings$Sayings" 1 := hX
  have hB : ∀ i, i < 35 → B i = B i := fun _ _ => rfl
  show JW X B 35 0 0 0 [(0, vR 34), (1, vR 1), (2, vR 13)] [] M _
  refine j_aload_n hX 0 dX6_init_0 rfl rfl ?_
  refine j_obj hX (by decide) wd271 wd130 wd131 dX6_init_1 rfl ?_
  refine j_aload_n hX 0 dX6_init_4 rfl rfl ?_
  refine j_bipush hX dX6_init_5 (rc rfl) (by decide) ?_
  refine j_newa_l (N := 64) hX hf rfl (by decide) ty35 wd238 ⟨by rw [hcl]; decide, by rw [hsl]; decide⟩ dX6_init_7 (fun B1 hB1 => ?_)
  have hB := fun i hi => (hB1 i (Nat.lt_of_lt_of_le hi (by decide))).trans (hB i hi)
  clear hB1
  refine j_putRF (E := fun S => S) (P := fun _ => True) (k := 2) hX (Lens.id _) cbX6 ty34 trivial (by decide) rfl wd274 rfl (fun _ => rfl) (fun _ => rfl) (fun q => absurd (hf.symm.trans q) (by decide)) rfl hin rfl dX6_init_9 ?_
  refine j_aload_n hX 0 dX6_init_12 rfl rfl ?_
  refine j_sipush hX dX6_init_13 (rc rfl) (by decide) ?_
  refine j_newa_l (N := 256) hX hf rfl (by decide) ty36 wd238 ⟨by rw [hcl]; decide, by rw [hsl]; decide⟩ dX6_init_16 (fun B1 hB1 => ?_)
  have hB := fun i hi => (hB1 i (Nat.lt_of_lt_of_le hi (by decide))).trans (hB i hi)
  clear hB1
  refine j_putR (E := fun S => S) (P := fun _ => True) (k := 3) hX (Lens.id _) cbX6 ty34 trivial (by decide) rfl wd275 rfl (fun _ => rfl) (fun _ => rfl) (fun q => absurd (hf.symm.trans q) (by decide)) rfl dX6_init_18 ?_
  refine j_aload_n hX 0 dX6_init_21 rfl rfl ?_
  refine j_sipush hX dX6_init_22 (rc rfl) (by decide) ?_
  refine j_newa_l (N := 256) hX hf rfl (by decide) ty37 wd238 ⟨by rw [hcl]; decide, by rw [hsl]; decide⟩ dX6_init_25 (fun B1 hB1 => ?_)
  have hB := fun i hi => (hB1 i (Nat.lt_of_lt_of_le hi (by decide))).trans (hB i hi)
  clear hB1
  refine j_putR (E := fun S => S) (P := fun _ => True) (k := 4) hX (Lens.id _) cbX6 ty34 trivial (by decide) rfl wd276 rfl (fun _ => rfl) (fun _ => rfl) (fun q => absurd (hf.symm.trans q) (by decide)) rfl dX6_init_27 ?_
  refine j_aload_n hX 0 dX6_init_30 rfl rfl ?_
  refine j_iconst hX dX6_init_31 (rc rfl) ?_
  refine j_putI (E := fun S => S) (P := fun _ => True) (k := 5) hX (Lens.id _) cbX6 ty34 trivial (by decide) rfl wd277 rfl (Or.inl rfl) rfl dX6_init_32 ?_
  refine j_aload_n hX 0 dX6_init_35 rfl rfl ?_
  refine j_aload_n hX 1 dX6_init_36 rfl rfl ?_
  refine j_putRF (E := fun S => S) (P := fun _ => True) (k := 0) hX (Lens.id _) cbX6 ty34 trivial (by decide) rfl wd272 rfl (fun _ => rfl) (fun _ => rfl) (fun q => absurd (hf.symm.trans q) (by decide)) rfl hin rfl dX6_init_37 ?_
  refine j_aload_n hX 0 dX6_init_40 rfl rfl ?_
  refine j_aload_n hX 2 dX6_init_41 rfl rfl ?_
  refine j_putRF (E := fun S => S) (P := fun _ => True) (k := 1) hX (Lens.id _) cbX6 ty34 trivial (by decide) rfl wd273 rfl (fun _ => rfl) (fun _ => rfl) (fun q => absurd (hf.symm.trans q) (by decide)) rfl hin rfl dX6_init_42 ?_
  exact j_cret hX hR hB dX6_init_45
def m_X3_init (M : Mem) : Mem := sR (sR (sR (zM (sR (zM (sR (zM (sR (zM (M) 39) 38 2 (some 39)) 40) 38 3 (some 40)) 41) 38 4 (some 41)) 42) 38 5 (some 42)) 38 0 (some 1)) 38 1 (some 30)
theorem c_X3_init {g : G0} (hf : g.2.2.2.2 = false) (M : Mem) : CnC g 39 43 4 16 yX3_init cX3_init 3 1 [vR 38, vR 1, vR 30] M (m_X3_init M) := by
  refine CnC.of (by decide +kernel) rfl (Nat.le_of_ble_eq_true rfl) (fun X B hg hnl hX hR hin hcl hsl => ?_)
  subst hg
  have hX : Ctx X cX3_init "TelegramFeelings$Hearing" 1 := hX
  have hB : ∀ i, i < 39 → B i = B i := fun _ _ => rfl
  show JW X B 39 0 0 0 [(0, vR 38), (1, vR 1), (2, vR 30)] [] M _
  refine j_aload_n hX 0 dX3_init_0 rfl rfl ?_
  refine j_obj hX (by decide) wd296 wd130 wd131 dX3_init_1 rfl ?_
  refine j_aload_n hX 0 dX3_init_4 rfl rfl ?_
  refine j_iconst hX dX3_init_5 (rc rfl) ?_
  refine j_newa_l (N := 4) hX hf rfl (by decide) ty39 wd238 ⟨by rw [hcl]; decide, by rw [hsl]; decide⟩ dX3_init_6 (fun B1 hB1 => ?_)
  have hB := fun i hi => (hB1 i (Nat.lt_of_lt_of_le hi (by decide))).trans (hB i hi)
  clear hB1
  refine j_putR (E := fun S => S) (P := fun _ => True) (k := 2) hX (Lens.id _) cbX3 ty38 trivial (by decide) rfl wd299 rfl (fun _ => rfl) (fun _ => rfl) (fun q => absurd (hf.symm.trans q) (by decide)) rfl dX3_init_8 ?_
  refine j_aload_n hX 0 dX3_init_11 rfl rfl ?_
  refine j_iconst hX dX3_init_12 (rc rfl) ?_
  refine j_newa_l (N := 4) hX hf rfl (by decide) ty40 wd238 ⟨by rw [hcl]; decide, by rw [hsl]; decide⟩ dX3_init_13 (fun B1 hB1 => ?_)
  have hB := fun i hi => (hB1 i (Nat.lt_of_lt_of_le hi (by decide))).trans (hB i hi)
  clear hB1
  refine j_putR (E := fun S => S) (P := fun _ => True) (k := 3) hX (Lens.id _) cbX3 ty38 trivial (by decide) rfl wd300 rfl (fun _ => rfl) (fun _ => rfl) (fun q => absurd (hf.symm.trans q) (by decide)) rfl dX3_init_15 ?_
  refine j_aload_n hX 0 dX3_init_18 rfl rfl ?_
  refine j_iconst hX dX3_init_19 (rc rfl) ?_
  refine j_newa_i (N := 4) hX hf rfl (by decide) ty41 wd160 ⟨by rw [hcl]; decide, by rw [hsl]; decide⟩ dX3_init_20 (fun B1 hB1 => ?_)
  have hB := fun i hi => (hB1 i (Nat.lt_of_lt_of_le hi (by decide))).trans (hB i hi)
  clear hB1
  refine j_putR (E := fun S => S) (P := fun _ => True) (k := 4) hX (Lens.id _) cbX3 ty38 trivial (by decide) rfl wd301 rfl (fun _ => rfl) (fun _ => rfl) (fun q => absurd (hf.symm.trans q) (by decide)) rfl dX3_init_22 ?_
  refine j_aload_n hX 0 dX3_init_25 rfl rfl ?_
  refine j_iconst hX dX3_init_26 (rc rfl) ?_
  refine j_newa_i (N := 4) hX hf rfl (by decide) ty42 wd160 ⟨by rw [hcl]; decide, by rw [hsl]; decide⟩ dX3_init_27 (fun B1 hB1 => ?_)
  have hB := fun i hi => (hB1 i (Nat.lt_of_lt_of_le hi (by decide))).trans (hB i hi)
  clear hB1
  refine j_putR (E := fun S => S) (P := fun _ => True) (k := 5) hX (Lens.id _) cbX3 ty38 trivial (by decide) rfl wd302 rfl (fun _ => rfl) (fun _ => rfl) (fun q => absurd (hf.symm.trans q) (by decide)) rfl dX3_init_29 ?_
  refine j_aload_n hX 0 dX3_init_32 rfl rfl ?_
  refine j_aload_n hX 1 dX3_init_33 rfl rfl ?_
  refine j_putRF (E := fun S => S) (P := fun _ => True) (k := 0) hX (Lens.id _) cbX3 ty38 trivial (by decide) rfl wd297 rfl (fun _ => rfl) (fun _ => rfl) (fun q => absurd (hf.symm.trans q) (by decide)) rfl hin rfl dX3_init_34 ?_
  refine j_aload_n hX 0 dX3_init_37 rfl rfl ?_
  refine j_aload_n hX 2 dX3_init_38 rfl rfl ?_
  refine j_putRF (E := fun S => S) (P := fun _ => True) (k := 1) hX (Lens.id _) cbX3 ty38 trivial (by decide) rfl wd298 rfl (fun _ => rfl) (fun _ => rfl) (fun q => absurd (hf.symm.trans q) (by decide)) rfl hin rfl dX3_init_39 ?_
  exact j_cret hX hR hB dX3_init_42
def m_X2_init (M : Mem) : Mem := sR (sR (zM (sR (zM (sR (zM (sR (zM (M) 44) 43 1 (some 44)) 45) 43 5 (some 45)) 46) 43 6 (some 46)) 47) 43 7 (some 47)) 43 0 (some 1)
theorem c_X2_init {g : G0} (hf : g.2.2.2.2 = false) (M : Mem) : CnC g 44 48 4 22 yX2_init cX2_init 2 1 [vR 43, vR 1] M (m_X2_init M) := by
  refine CnC.of (by decide +kernel) rfl (Nat.le_of_ble_eq_true rfl) (fun X B hg hnl hX hR hin hcl hsl => ?_)
  subst hg
  have hX : Ctx X cX2_init "TelegramFeelings$Deeds" 1 := hX
  have hB : ∀ i, i < 44 → B i = B i := fun _ _ => rfl
  show JW X B 44 0 0 0 [(0, vR 43), (1, vR 1)] [] M _
  refine j_aload_n hX 0 dX2_init_0 rfl rfl ?_
  refine j_obj hX (by decide) wd321 wd130 wd131 dX2_init_1 rfl ?_
  refine j_aload_n hX 0 dX2_init_4 rfl rfl ?_
  refine j_iconst hX dX2_init_5 (rc rfl) ?_
  refine j_newa_i (N := 5) hX hf rfl (by decide) ty44 wd160 ⟨by rw [hcl]; decide, by rw [hsl]; decide⟩ dX2_init_6 (fun B1 hB1 => ?_)
  have hB := fun i hi => (hB1 i (Nat.lt_of_lt_of_le hi (by decide))).trans (hB i hi)
  clear hB1
  refine j_putRF (E := fun S => S) (P := fun _ => True) (k := 1) hX (Lens.id _) cbX2 ty43 trivial (by decide) rfl wd323 rfl (fun _ => rfl) (fun _ => rfl) (fun q => absurd (hf.symm.trans q) (by decide)) rfl hin rfl dX2_init_8 ?_
  refine j_aload_n hX 0 dX2_init_11 rfl rfl ?_
  refine j_bipush hX dX2_init_12 (rc rfl) (by decide) ?_
  refine j_newa_i (N := 6) hX hf rfl (by decide) ty45 wd160 ⟨by rw [hcl]; decide, by rw [hsl]; decide⟩ dX2_init_14 (fun B1 hB1 => ?_)
  have hB := fun i hi => (hB1 i (Nat.lt_of_lt_of_le hi (by decide))).trans (hB i hi)
  clear hB1
  refine j_putRF (E := fun S => S) (P := fun _ => True) (k := 5) hX (Lens.id _) cbX2 ty43 trivial (by decide) rfl wd328 rfl (fun _ => rfl) (fun _ => rfl) (fun q => absurd (hf.symm.trans q) (by decide)) rfl hin rfl dX2_init_16 ?_
  refine j_aload_n hX 0 dX2_init_19 rfl rfl ?_
  refine j_bipush hX dX2_init_20 (rc rfl) (by decide) ?_
  refine j_newa_i (N := 6) hX hf rfl (by decide) ty46 wd160 ⟨by rw [hcl]; decide, by rw [hsl]; decide⟩ dX2_init_22 (fun B1 hB1 => ?_)
  have hB := fun i hi => (hB1 i (Nat.lt_of_lt_of_le hi (by decide))).trans (hB i hi)
  clear hB1
  refine j_putRF (E := fun S => S) (P := fun _ => True) (k := 6) hX (Lens.id _) cbX2 ty43 trivial (by decide) rfl wd329 rfl (fun _ => rfl) (fun _ => rfl) (fun q => absurd (hf.symm.trans q) (by decide)) rfl hin rfl dX2_init_24 ?_
  refine j_aload_n hX 0 dX2_init_27 rfl rfl ?_
  refine j_iconst hX dX2_init_28 (rc rfl) ?_
  refine j_newa_i (N := 5) hX hf rfl (by decide) ty47 wd160 ⟨by rw [hcl]; decide, by rw [hsl]; decide⟩ dX2_init_29 (fun B1 hB1 => ?_)
  have hB := fun i hi => (hB1 i (Nat.lt_of_lt_of_le hi (by decide))).trans (hB i hi)
  clear hB1
  refine j_putRF (E := fun S => S) (P := fun _ => True) (k := 7) hX (Lens.id _) cbX2 ty43 trivial (by decide) rfl wd330 rfl (fun _ => rfl) (fun _ => rfl) (fun q => absurd (hf.symm.trans q) (by decide)) rfl hin rfl dX2_init_31 ?_
  refine j_aload_n hX 0 dX2_init_34 rfl rfl ?_
  refine j_aload_n hX 1 dX2_init_35 rfl rfl ?_
  refine j_putRF (E := fun S => S) (P := fun _ => True) (k := 0) hX (Lens.id _) cbX2 ty43 trivial (by decide) rfl wd322 rfl (fun _ => rfl) (fun _ => rfl) (fun q => absurd (hf.symm.trans q) (by decide)) rfl hin rfl dX2_init_36 ?_
  exact j_cret hX hR hB dX2_init_39
def m_X1_init (M : Mem) : Mem := sR (sR (zM (sR (zM (sR (zM (sR (zM (M) 49) 48 1 (some 49)) 50) 48 2 (some 50)) 51) 48 3 (some 51)) 52) 48 4 (some 52)) 48 0 (some 1)
theorem c_X1_init {g : G0} (hf : g.2.2.2.2 = false) (M : Mem) : CnC g 49 53 4 160 yX1_init cX1_init 2 1 [vR 48, vR 1] M (m_X1_init M) := by
  refine CnC.of (by decide +kernel) rfl (Nat.le_of_ble_eq_true rfl) (fun X B hg hnl hX hR hin hcl hsl => ?_)
  subst hg
  have hX : Ctx X cX1_init "TelegramFeelings$Changes" 1 := hX
  have hB : ∀ i, i < 49 → B i = B i := fun _ _ => rfl
  show JW X B 49 0 0 0 [(0, vR 48), (1, vR 1)] [] M _
  refine j_aload_n hX 0 dX1_init_0 rfl rfl ?_
  refine j_obj hX (by decide) wd353 wd130 wd131 dX1_init_1 rfl ?_
  refine j_aload_n hX 0 dX1_init_4 rfl rfl ?_
  refine j_bipush hX dX1_init_5 (rc rfl) (by decide) ?_
  refine j_newa_i (N := 40) hX hf rfl (by decide) ty49 wd160 ⟨by rw [hcl]; decide, by rw [hsl]; decide⟩ dX1_init_7 (fun B1 hB1 => ?_)
  have hB := fun i hi => (hB1 i (Nat.lt_of_lt_of_le hi (by decide))).trans (hB i hi)
  clear hB1
  refine j_putRF (E := fun S => S) (P := fun _ => True) (k := 1) hX (Lens.id _) cbX1 ty48 trivial (by decide) rfl wd355 rfl (fun _ => rfl) (fun _ => rfl) (fun q => absurd (hf.symm.trans q) (by decide)) rfl hin rfl dX1_init_9 ?_
  refine j_aload_n hX 0 dX1_init_12 rfl rfl ?_
  refine j_bipush hX dX1_init_13 (rc rfl) (by decide) ?_
  refine j_newa_i (N := 40) hX hf rfl (by decide) ty50 wd160 ⟨by rw [hcl]; decide, by rw [hsl]; decide⟩ dX1_init_15 (fun B1 hB1 => ?_)
  have hB := fun i hi => (hB1 i (Nat.lt_of_lt_of_le hi (by decide))).trans (hB i hi)
  clear hB1
  refine j_putRF (E := fun S => S) (P := fun _ => True) (k := 2) hX (Lens.id _) cbX1 ty48 trivial (by decide) rfl wd356 rfl (fun _ => rfl) (fun _ => rfl) (fun q => absurd (hf.symm.trans q) (by decide)) rfl hin rfl dX1_init_17 ?_
  refine j_aload_n hX 0 dX1_init_20 rfl rfl ?_
  refine j_bipush hX dX1_init_21 (rc rfl) (by decide) ?_
  refine j_newa_i (N := 40) hX hf rfl (by decide) ty51 wd160 ⟨by rw [hcl]; decide, by rw [hsl]; decide⟩ dX1_init_23 (fun B1 hB1 => ?_)
  have hB := fun i hi => (hB1 i (Nat.lt_of_lt_of_le hi (by decide))).trans (hB i hi)
  clear hB1
  refine j_putRF (E := fun S => S) (P := fun _ => True) (k := 3) hX (Lens.id _) cbX1 ty48 trivial (by decide) rfl wd357 rfl (fun _ => rfl) (fun _ => rfl) (fun q => absurd (hf.symm.trans q) (by decide)) rfl hin rfl dX1_init_25 ?_
  refine j_aload_n hX 0 dX1_init_28 rfl rfl ?_
  refine j_bipush hX dX1_init_29 (rc rfl) (by decide) ?_
  refine j_newa_i (N := 40) hX hf rfl (by decide) ty52 wd160 ⟨by rw [hcl]; decide, by rw [hsl]; decide⟩ dX1_init_31 (fun B1 hB1 => ?_)
  have hB := fun i hi => (hB1 i (Nat.lt_of_lt_of_le hi (by decide))).trans (hB i hi)
  clear hB1
  refine j_putRF (E := fun S => S) (P := fun _ => True) (k := 4) hX (Lens.id _) cbX1 ty48 trivial (by decide) rfl wd358 rfl (fun _ => rfl) (fun _ => rfl) (fun q => absurd (hf.symm.trans q) (by decide)) rfl hin rfl dX1_init_33 ?_
  refine j_aload_n hX 0 dX1_init_36 rfl rfl ?_
  refine j_aload_n hX 1 dX1_init_37 rfl rfl ?_
  refine j_putRF (E := fun S => S) (P := fun _ => True) (k := 0) hX (Lens.id _) cbX1 ty48 trivial (by decide) rfl wd354 rfl (fun _ => rfl) (fun _ => rfl) (fun q => absurd (hf.symm.trans q) (by decide)) rfl hin rfl dX1_init_38 ?_
  exact j_cret hX hR hB dX1_init_41
def m_X0_init (M : Mem) : Mem := sR (zM (sR (zM (M) 54) 53 0 (some 54)) 55) 53 2 (some 55)
theorem c_X0_init {g : G0} (hf : g.2.2.2.2 = false) (M : Mem) : CnC g 54 56 2 74 yX0_init cX0_init 1 1 [vR 53] M (m_X0_init M) := by
  refine CnC.of (by decide +kernel) rfl (Nat.le_of_ble_eq_true rfl) (fun X B hg hnl hX hR hin hcl hsl => ?_)
  subst hg
  have hX : Ctx X cX0_init "TelegramFeelings$Bodies" 1 := hX
  have hB : ∀ i, i < 54 → B i = B i := fun _ _ => rfl
  show JW X B 54 0 0 0 [(0, vR 53)] [] M _
  refine j_aload_n hX 0 dX0_init_0 rfl rfl ?_
  refine j_obj hX (by decide) wd382 wd130 wd131 dX0_init_1 rfl ?_
  refine j_aload_n hX 0 dX0_init_4 rfl rfl ?_
  refine j_bipush hX dX0_init_5 (rc rfl) (by decide) ?_
  refine j_newa_i (N := 50) hX hf rfl (by decide) ty54 wd160 ⟨by rw [hcl]; decide, by rw [hsl]; decide⟩ dX0_init_7 (fun B1 hB1 => ?_)
  have hB := fun i hi => (hB1 i (Nat.lt_of_lt_of_le hi (by decide))).trans (hB i hi)
  clear hB1
  refine j_putRF (E := fun S => S) (P := fun _ => True) (k := 0) hX (Lens.id _) cbX0 ty53 trivial (by decide) rfl wd383 rfl (fun _ => rfl) (fun _ => rfl) (fun q => absurd (hf.symm.trans q) (by decide)) rfl hin rfl dX0_init_9 ?_
  refine j_aload_n hX 0 dX0_init_12 rfl rfl ?_
  refine j_bipush hX dX0_init_13 (rc rfl) (by decide) ?_
  refine j_newa_i (N := 24) hX hf rfl (by decide) ty55 wd160 ⟨by rw [hcl]; decide, by rw [hsl]; decide⟩ dX0_init_15 (fun B1 hB1 => ?_)
  have hB := fun i hi => (hB1 i (Nat.lt_of_lt_of_le hi (by decide))).trans (hB i hi)
  clear hB1
  refine j_putRF (E := fun S => S) (P := fun _ => True) (k := 2) hX (Lens.id _) cbX0 ty53 trivial (by decide) rfl wd386 rfl (fun _ => rfl) (fun _ => rfl) (fun q => absurd (hf.symm.trans q) (by decide)) rfl hin rfl dX0_init_17 ?_
  exact j_cret hX hR hB dX0_init_20
def m_X9_init (M : Mem) : Mem := sR (m_X0_init (zM (sR (m_X1_init (zM (sR (m_X2_init (zM (sR (m_X3_init (zM (sR (m_X6_init (zM (sR (m_X8_init (zM (sR (m_X7_init (zM (sR (m_X4_init (zM (sR (m_X5_init (zM (M) 1)) 0 0 (some 1)) 13)) 0 1 (some 13)) 19)) 0 2 (some 19)) 30)) 0 3 (some 30)) 34)) 0 4 (some 34)) 38)) 0 5 (some 38)) 43)) 0 6 (some 43)) 48)) 0 7 (some 48)) 53)) 0 8 (some 53)
theorem c_X9_init {g : G0} (hf : g.2.2.2.2 = false) (M : Mem) : CnC g 1 56 55 1946 yX9_init cX9_init 1 3 [vR 0] M (m_X9_init M) := by
  refine CnC.of (by decide +kernel) rfl (Nat.le_of_ble_eq_true rfl) (fun X B hg hnl hX hR hin hcl hsl => ?_)
  subst hg
  have hX : Ctx X cX9_init "TelegramFeelings" 3 := hX
  have hB : ∀ i, i < 1 → B i = B i := fun _ _ => rfl
  show JW X B 1 0 0 0 [(0, vR 0)] [] M _
  refine j_aload_n hX 0 dX9_init_0 rfl rfl ?_
  refine j_obj hX (by decide) wd129 wd130 wd131 dX9_init_1 rfl ?_
  refine j_aload_n hX 0 dX9_init_4 rfl rfl ?_
  refine j_new hX hf cbX5 ty1 wd132 wd133 wd105 (by decide +kernel) ⟨by rw [hcl]; decide, by rw [hsl]; decide⟩ dX9_init_5 (fun B1 hB1 => ?_)
  have hB := fun i hi => (hB1 i (Nat.lt_of_lt_of_le hi (by decide))).trans (hB i hi)
  clear hB1
  refine j_dup hX dX9_init_8 rfl ?_
  refine j_callC hX hf mwX5_init wd135 wd134 rfl hyX5_init (by decide) (by decide) ⟨by rw [hcl]; decide, by rw [hsl]; decide⟩ dX9_init_9 (by decide) (c_X5_init hf _) npX5_init rfl (Nat.le_of_ble_eq_true rfl) (fun B1 hB1 => ?_)
  have hB := fun i hi => (hB1 i (Nat.lt_of_lt_of_le hi (by decide))).trans (hB i hi)
  clear hB1
  refine j_putRF (E := fun S => S) (P := fun _ => True) (k := 0) hX (Lens.id _) cbX9 ty0 trivial (by decide) rfl wd404 rfl (fun _ => rfl) (fun _ => rfl) (fun q => absurd (hf.symm.trans q) (by decide)) rfl hin rfl dX9_init_12 ?_
  refine j_aload_n hX 0 dX9_init_15 rfl rfl ?_
  refine j_new hX hf cbX4 ty13 wd161 wd162 wd106 (by decide +kernel) ⟨by rw [hcl]; decide, by rw [hsl]; decide⟩ dX9_init_16 (fun B1 hB1 => ?_)
  have hB := fun i hi => (hB1 i (Nat.lt_of_lt_of_le hi (by decide))).trans (hB i hi)
  clear hB1
  refine j_dup hX dX9_init_19 rfl ?_
  refine j_aload_n hX 0 dX9_init_20 rfl rfl ?_
  refine j_getR (E := fun S => S) (P := fun _ => True) (k := 0) (a := 1) hX (Lens.id _) cbX9 ty0 trivial (by decide) rfl wd404 rfl rfl dX9_init_21 ?_
  refine j_callC hX hf mwX4_init wd164 wd163 rfl hyX4_init (by decide) (by decide) ⟨by rw [hcl]; decide, by rw [hsl]; decide⟩ dX9_init_24 (by decide) (c_X4_init hf _) npX4_init rfl (Nat.le_of_ble_eq_true rfl) (fun B1 hB1 => ?_)
  have hB := fun i hi => (hB1 i (Nat.lt_of_lt_of_le hi (by decide))).trans (hB i hi)
  clear hB1
  refine j_putRF (E := fun S => S) (P := fun _ => True) (k := 1) hX (Lens.id _) cbX9 ty0 trivial (by decide) rfl wd405 rfl (fun _ => rfl) (fun _ => rfl) (fun q => absurd (hf.symm.trans q) (by decide)) rfl hin rfl dX9_init_27 ?_
  refine j_aload_n hX 0 dX9_init_30 rfl rfl ?_
  refine j_new hX hf cbX7 ty19 wd214 wd215 wd108 (by decide +kernel) ⟨by rw [hcl]; decide, by rw [hsl]; decide⟩ dX9_init_31 (fun B1 hB1 => ?_)
  have hB := fun i hi => (hB1 i (Nat.lt_of_lt_of_le hi (by decide))).trans (hB i hi)
  clear hB1
  refine j_dup hX dX9_init_34 rfl ?_
  refine j_callC hX hf mwX7_init wd217 wd216 rfl hyX7_init (by decide) (by decide) ⟨by rw [hcl]; decide, by rw [hsl]; decide⟩ dX9_init_35 (by decide) (c_X7_init hf _) npX7_init rfl (Nat.le_of_ble_eq_true rfl) (fun B1 hB1 => ?_)
  have hB := fun i hi => (hB1 i (Nat.lt_of_lt_of_le hi (by decide))).trans (hB i hi)
  clear hB1
  refine j_putRF (E := fun S => S) (P := fun _ => True) (k := 2) hX (Lens.id _) cbX9 ty0 trivial (by decide) rfl wd406 rfl (fun _ => rfl) (fun _ => rfl) (fun q => absurd (hf.symm.trans q) (by decide)) rfl hin rfl dX9_init_38 ?_
  refine j_aload_n hX 0 dX9_init_41 rfl rfl ?_
  refine j_new hX hf cbX8 ty30 wd239 wd240 wd110 (by decide +kernel) ⟨by rw [hcl]; decide, by rw [hsl]; decide⟩ dX9_init_42 (fun B1 hB1 => ?_)
  have hB := fun i hi => (hB1 i (Nat.lt_of_lt_of_le hi (by decide))).trans (hB i hi)
  clear hB1
  refine j_dup hX dX9_init_45 rfl ?_
  refine j_aload_n hX 0 dX9_init_46 rfl rfl ?_
  refine j_getR (E := fun S => S) (P := fun _ => True) (k := 0) (a := 1) hX (Lens.id _) cbX9 ty0 trivial (by decide) rfl wd404 rfl rfl dX9_init_47 ?_
  refine j_aload_n hX 0 dX9_init_50 rfl rfl ?_
  refine j_getR (E := fun S => S) (P := fun _ => True) (k := 1) (a := 13) hX (Lens.id _) cbX9 ty0 trivial (by decide) rfl wd405 rfl rfl dX9_init_51 ?_
  refine j_callC hX hf mwX8_init wd242 wd241 rfl hyX8_init (by decide) (by decide) ⟨by rw [hcl]; decide, by rw [hsl]; decide⟩ dX9_init_54 (by decide) (c_X8_init hf _) npX8_init rfl (Nat.le_of_ble_eq_true rfl) (fun B1 hB1 => ?_)
  have hB := fun i hi => (hB1 i (Nat.lt_of_lt_of_le hi (by decide))).trans (hB i hi)
  clear hB1
  refine j_putRF (E := fun S => S) (P := fun _ => True) (k := 3) hX (Lens.id _) cbX9 ty0 trivial (by decide) rfl wd407 rfl (fun _ => rfl) (fun _ => rfl) (fun q => absurd (hf.symm.trans q) (by decide)) rfl hin rfl dX9_init_57 ?_
  refine j_aload_n hX 0 dX9_init_60 rfl rfl ?_
  refine j_new hX hf cbX6 ty34 wd266 wd267 wd111 (by decide +kernel) ⟨by rw [hcl]; decide, by rw [hsl]; decide⟩ dX9_init_61 (fun B1 hB1 => ?_)
  have hB := fun i hi => (hB1 i (Nat.lt_of_lt_of_le hi (by decide))).trans (hB i hi)
  clear hB1
  refine j_dup hX dX9_init_64 rfl ?_
  refine j_aload_n hX 0 dX9_init_65 rfl rfl ?_
  refine j_getR (E := fun S => S) (P := fun _ => True) (k := 0) (a := 1) hX (Lens.id _) cbX9 ty0 trivial (by decide) rfl wd404 rfl rfl dX9_init_66 ?_
  refine j_aload_n hX 0 dX9_init_69 rfl rfl ?_
  refine j_getR (E := fun S => S) (P := fun _ => True) (k := 1) (a := 13) hX (Lens.id _) cbX9 ty0 trivial (by decide) rfl wd405 rfl rfl dX9_init_70 ?_
  refine j_callC hX hf mwX6_init wd269 wd268 rfl hyX6_init (by decide) (by decide) ⟨by rw [hcl]; decide, by rw [hsl]; decide⟩ dX9_init_73 (by decide) (c_X6_init hf _) npX6_init rfl (Nat.le_of_ble_eq_true rfl) (fun B1 hB1 => ?_)
  have hB := fun i hi => (hB1 i (Nat.lt_of_lt_of_le hi (by decide))).trans (hB i hi)
  clear hB1
  refine j_putRF (E := fun S => S) (P := fun _ => True) (k := 4) hX (Lens.id _) cbX9 ty0 trivial (by decide) rfl wd408 rfl (fun _ => rfl) (fun _ => rfl) (fun q => absurd (hf.symm.trans q) (by decide)) rfl hin rfl dX9_init_76 ?_
  refine j_aload_n hX 0 dX9_init_79 rfl rfl ?_
  refine j_new hX hf cbX3 ty38 wd291 wd292 wd112 (by decide +kernel) ⟨by rw [hcl]; decide, by rw [hsl]; decide⟩ dX9_init_80 (fun B1 hB1 => ?_)
  have hB := fun i hi => (hB1 i (Nat.lt_of_lt_of_le hi (by decide))).trans (hB i hi)
  clear hB1
  refine j_dup hX dX9_init_83 rfl ?_
  refine j_aload_n hX 0 dX9_init_84 rfl rfl ?_
  refine j_getR (E := fun S => S) (P := fun _ => True) (k := 0) (a := 1) hX (Lens.id _) cbX9 ty0 trivial (by decide) rfl wd404 rfl rfl dX9_init_85 ?_
  refine j_aload_n hX 0 dX9_init_88 rfl rfl ?_
  refine j_getR (E := fun S => S) (P := fun _ => True) (k := 3) (a := 30) hX (Lens.id _) cbX9 ty0 trivial (by decide) rfl wd407 rfl rfl dX9_init_89 ?_
  refine j_callC hX hf mwX3_init wd294 wd293 rfl hyX3_init (by decide) (by decide) ⟨by rw [hcl]; decide, by rw [hsl]; decide⟩ dX9_init_92 (by decide) (c_X3_init hf _) npX3_init rfl (Nat.le_of_ble_eq_true rfl) (fun B1 hB1 => ?_)
  have hB := fun i hi => (hB1 i (Nat.lt_of_lt_of_le hi (by decide))).trans (hB i hi)
  clear hB1
  refine j_putRF (E := fun S => S) (P := fun _ => True) (k := 5) hX (Lens.id _) cbX9 ty0 trivial (by decide) rfl wd409 rfl (fun _ => rfl) (fun _ => rfl) (fun q => absurd (hf.symm.trans q) (by decide)) rfl hin rfl dX9_init_95 ?_
  refine j_aload_n hX 0 dX9_init_98 rfl rfl ?_
  refine j_new hX hf cbX2 ty43 wd316 wd317 wd113 (by decide +kernel) ⟨by rw [hcl]; decide, by rw [hsl]; decide⟩ dX9_init_99 (fun B1 hB1 => ?_)
  have hB := fun i hi => (hB1 i (Nat.lt_of_lt_of_le hi (by decide))).trans (hB i hi)
  clear hB1
  refine j_dup hX dX9_init_102 rfl ?_
  refine j_aload_n hX 0 dX9_init_103 rfl rfl ?_
  refine j_getR (E := fun S => S) (P := fun _ => True) (k := 0) (a := 1) hX (Lens.id _) cbX9 ty0 trivial (by decide) rfl wd404 rfl rfl dX9_init_104 ?_
  refine j_callC hX hf mwX2_init wd319 wd318 rfl hyX2_init (by decide) (by decide) ⟨by rw [hcl]; decide, by rw [hsl]; decide⟩ dX9_init_107 (by decide) (c_X2_init hf _) npX2_init rfl (Nat.le_of_ble_eq_true rfl) (fun B1 hB1 => ?_)
  have hB := fun i hi => (hB1 i (Nat.lt_of_lt_of_le hi (by decide))).trans (hB i hi)
  clear hB1
  refine j_putRF (E := fun S => S) (P := fun _ => True) (k := 6) hX (Lens.id _) cbX9 ty0 trivial (by decide) rfl wd410 rfl (fun _ => rfl) (fun _ => rfl) (fun q => absurd (hf.symm.trans q) (by decide)) rfl hin rfl dX9_init_110 ?_
  refine j_aload_n hX 0 dX9_init_113 rfl rfl ?_
  refine j_new hX hf cbX1 ty48 wd348 wd349 wd114 (by decide +kernel) ⟨by rw [hcl]; decide, by rw [hsl]; decide⟩ dX9_init_114 (fun B1 hB1 => ?_)
  have hB := fun i hi => (hB1 i (Nat.lt_of_lt_of_le hi (by decide))).trans (hB i hi)
  clear hB1
  refine j_dup hX dX9_init_117 rfl ?_
  refine j_aload_n hX 0 dX9_init_118 rfl rfl ?_
  refine j_getR (E := fun S => S) (P := fun _ => True) (k := 0) (a := 1) hX (Lens.id _) cbX9 ty0 trivial (by decide) rfl wd404 rfl rfl dX9_init_119 ?_
  refine j_callC hX hf mwX1_init wd351 wd350 rfl hyX1_init (by decide) (by decide) ⟨by rw [hcl]; decide, by rw [hsl]; decide⟩ dX9_init_122 (by decide) (c_X1_init hf _) npX1_init rfl (Nat.le_of_ble_eq_true rfl) (fun B1 hB1 => ?_)
  have hB := fun i hi => (hB1 i (Nat.lt_of_lt_of_le hi (by decide))).trans (hB i hi)
  clear hB1
  refine j_putRF (E := fun S => S) (P := fun _ => True) (k := 7) hX (Lens.id _) cbX9 ty0 trivial (by decide) rfl wd411 rfl (fun _ => rfl) (fun _ => rfl) (fun q => absurd (hf.symm.trans q) (by decide)) rfl hin rfl dX9_init_125 ?_
  refine j_aload_n hX 0 dX9_init_128 rfl rfl ?_
  refine j_new hX hf cbX0 ty53 wd377 wd378 wd115 (by decide +kernel) ⟨by rw [hcl]; decide, by rw [hsl]; decide⟩ dX9_init_129 (fun B1 hB1 => ?_)
  have hB := fun i hi => (hB1 i (Nat.lt_of_lt_of_le hi (by decide))).trans (hB i hi)
  clear hB1
  refine j_dup hX dX9_init_132 rfl ?_
  refine j_callCN hX hf mwX0_init wd380 (fun h => h.2.1.1) rfl hyX0_init (by decide) (by decide) ⟨by rw [hcl]; decide, by rw [hsl]; decide⟩ dX9_init_133 (by decide) (c_X0_init hf _) npX0_init rfl (Nat.le_of_ble_eq_true rfl) (fun B1 hB1 => ?_)
  have hB := fun i hi => (hB1 i (Nat.lt_of_lt_of_le hi (by decide))).trans (hB i hi)
  clear hB1
  refine j_putRF (E := fun S => S) (P := fun _ => True) (k := 8) hX (Lens.id _) cbX9 ty0 trivial (by decide) rfl wd412 rfl (fun _ => rfl) (fun _ => rfl) (fun q => absurd (hf.symm.trans q) (by decide)) rfl hin rfl dX9_init_136 ?_
  exact j_cret hX hR hB dX9_init_139
def m_X10_init (M : Mem) : Mem := sR (zM (sR (zM (sR (zM (sR (sI (sI (sI (sI (sI (sI (zM (sR (zM (sR (zM (sR (zM (sR (zM (sR (zM (sR (zM (sR (zM (sR (zM (sR (zM (sR (zM (sR (zM (sR (zM (sR (zM (sR (zM (sR (zM (sR (zM (sR (zM (sR (zM (sR (zM (sR (zM (sR (zM (sR (zM (sR (zM (sR (zM (sR (zM (sR (zM (sR (zM (sR (zM (sR (sI (sI (sI (zM (sR (zM (sR (zM (sR (zM (sR (zM (sR (zM (sR (zM (sR (zM (M) 57) 56 2 (some 57)) 58) 56 3 (some 58)) 59) 56 4 (some 59)) 60) 56 5 (some 60)) 61) 56 6 (some 61)) 62) 56 8 (some 62)) 63) 56 9 (some 63)) 64) 64 0 0) 64 1 1) 64 2 10) 56 10 (some 64)) 65) 56 13 (some 65)) 66) 56 14 (some 66)) 67) 56 15 (some 67)) 68) 56 16 (some 68)) 69) 56 17 (some 69)) 70) 56 23 (some 70)) 71) 56 24 (some 71)) 72) 56 25 (some 72)) 73) 56 26 (some 73)) 74) 56 27 (some 74)) 75) 56 28 (some 75)) 76) 56 29 (some 76)) 77) 56 31 (some 77)) 78) 56 33 (some 78)) 79) 56 34 (some 79)) 80) 56 35 (some 80)) 81) 56 38 (some 81)) 82) 56 39 (some 82)) 83) 56 40 (some 83)) 84) 56 41 (some 84)) 85) 56 42 (some 85)) 86) 56 43 (some 86)) 87) 56 45 (some 87)) 88) 56 49 (some 88)) 89) 56 50 (some 89)) 90) 56 51 (some 90)) 91) 56 53 (some 91)) 92) 56 55 (some 92)) 93) 93 0 (-1)) 93 1 (-1)) 93 2 (-1)) 93 3 (-1)) 93 4 (-1)) 93 5 (-1)) 56 56 (some 93)) 94) 56 57 (some 94)) 95) 56 58 (some 95)) 96) 56 59 (some 96)
theorem c_X10_init {g : G0} (hf : g.2.2.2.2 = false) (M : Mem) : CnC g 57 97 40 6831 yX10_init cX10_init 1 1 [vR 56] M (m_X10_init M) := by
  refine CnC.of (by decide +kernel) rfl (Nat.le_of_ble_eq_true rfl) (fun X B hg hnl hX hR hin hcl hsl => ?_)
  subst hg
  have hX : Ctx X cX10_init "TelegramFeelingsModel" 1 := hX
  have hB : ∀ i, i < 57 → B i = B i := fun _ _ => rfl
  show JW X B 57 0 0 0 [(0, vR 56)] [] M _
  refine j_aload_n hX 0 dX10_init_0 rfl rfl ?_
  refine j_obj hX (by decide) wd1140 wd130 wd131 dX10_init_1 rfl ?_
  refine j_aload_n hX 0 dX10_init_4 rfl rfl ?_
  refine j_bipush hX dX10_init_5 (rc rfl) (by decide) ?_
  refine j_newa_i (N := 12) hX hf rfl (by decide) ty57 wd160 ⟨by rw [hcl]; decide, by rw [hsl]; decide⟩ dX10_init_7 (fun B1 hB1 => ?_)
  have hB := fun i hi => (hB1 i (Nat.lt_of_lt_of_le hi (by decide))).trans (hB i hi)
  clear hB1
  refine j_putRF (E := fun S => S) (P := fun _ => True) (k := 2) hX (Lens.id _) cbX10 ty56 trivial (by decide) rfl wd1142 rfl (fun _ => rfl) (fun _ => rfl) (fun q => absurd (hf.symm.trans q) (by decide)) rfl hin rfl dX10_init_9 ?_
  refine j_aload_n hX 0 dX10_init_12 rfl rfl ?_
  refine j_bipush hX dX10_init_13 (rc rfl) (by decide) ?_
  refine j_newa_i (N := 12) hX hf rfl (by decide) ty58 wd160 ⟨by rw [hcl]; decide, by rw [hsl]; decide⟩ dX10_init_15 (fun B1 hB1 => ?_)
  have hB := fun i hi => (hB1 i (Nat.lt_of_lt_of_le hi (by decide))).trans (hB i hi)
  clear hB1
  refine j_putRF (E := fun S => S) (P := fun _ => True) (k := 3) hX (Lens.id _) cbX10 ty56 trivial (by decide) rfl wd1143 rfl (fun _ => rfl) (fun _ => rfl) (fun q => absurd (hf.symm.trans q) (by decide)) rfl hin rfl dX10_init_17 ?_
  refine j_aload_n hX 0 dX10_init_20 rfl rfl ?_
  refine j_bipush hX dX10_init_21 (rc rfl) (by decide) ?_
  refine j_newa_i (N := 12) hX hf rfl (by decide) ty59 wd160 ⟨by rw [hcl]; decide, by rw [hsl]; decide⟩ dX10_init_23 (fun B1 hB1 => ?_)
  have hB := fun i hi => (hB1 i (Nat.lt_of_lt_of_le hi (by decide))).trans (hB i hi)
  clear hB1
  refine j_putRF (E := fun S => S) (P := fun _ => True) (k := 4) hX (Lens.id _) cbX10 ty56 trivial (by decide) rfl wd1144 rfl (fun _ => rfl) (fun _ => rfl) (fun q => absurd (hf.symm.trans q) (by decide)) rfl hin rfl dX10_init_25 ?_
  refine j_aload_n hX 0 dX10_init_28 rfl rfl ?_
  refine j_bipush hX dX10_init_29 (rc rfl) (by decide) ?_
  refine j_newa_i (N := 12) hX hf rfl (by decide) ty60 wd160 ⟨by rw [hcl]; decide, by rw [hsl]; decide⟩ dX10_init_31 (fun B1 hB1 => ?_)
  have hB := fun i hi => (hB1 i (Nat.lt_of_lt_of_le hi (by decide))).trans (hB i hi)
  clear hB1
  refine j_putRF (E := fun S => S) (P := fun _ => True) (k := 5) hX (Lens.id _) cbX10 ty56 trivial (by decide) rfl wd1145 rfl (fun _ => rfl) (fun _ => rfl) (fun q => absurd (hf.symm.trans q) (by decide)) rfl hin rfl dX10_init_33 ?_
  refine j_aload_n hX 0 dX10_init_36 rfl rfl ?_
  refine j_bipush hX dX10_init_37 (rc rfl) (by decide) ?_
  refine j_newa_i (N := 12) hX hf rfl (by decide) ty61 wd160 ⟨by rw [hcl]; decide, by rw [hsl]; decide⟩ dX10_init_39 (fun B1 hB1 => ?_)
  have hB := fun i hi => (hB1 i (Nat.lt_of_lt_of_le hi (by decide))).trans (hB i hi)
  clear hB1
  refine j_putRF (E := fun S => S) (P := fun _ => True) (k := 6) hX (Lens.id _) cbX10 ty56 trivial (by decide) rfl wd1146 rfl (fun _ => rfl) (fun _ => rfl) (fun q => absurd (hf.symm.trans q) (by decide)) rfl hin rfl dX10_init_41 ?_
  refine j_aload_n hX 0 dX10_init_44 rfl rfl ?_
  refine j_bipush hX dX10_init_45 (rc rfl) (by decide) ?_
  refine j_newa_i (N := 6) hX hf rfl (by decide) ty62 wd160 ⟨by rw [hcl]; decide, by rw [hsl]; decide⟩ dX10_init_47 (fun B1 hB1 => ?_)
  have hB := fun i hi => (hB1 i (Nat.lt_of_lt_of_le hi (by decide))).trans (hB i hi)
  clear hB1
  refine j_putRF (E := fun S => S) (P := fun _ => True) (k := 8) hX (Lens.id _) cbX10 ty56 trivial (by decide) rfl wd1148 rfl (fun _ => rfl) (fun _ => rfl) (fun q => absurd (hf.symm.trans q) (by decide)) rfl hin rfl dX10_init_49 ?_
  refine j_aload_n hX 0 dX10_init_52 rfl rfl ?_
  refine j_bipush hX dX10_init_53 (rc rfl) (by decide) ?_
  refine j_newa_i (N := 6) hX hf rfl (by decide) ty63 wd160 ⟨by rw [hcl]; decide, by rw [hsl]; decide⟩ dX10_init_55 (fun B1 hB1 => ?_)
  have hB := fun i hi => (hB1 i (Nat.lt_of_lt_of_le hi (by decide))).trans (hB i hi)
  clear hB1
  refine j_putRF (E := fun S => S) (P := fun _ => True) (k := 9) hX (Lens.id _) cbX10 ty56 trivial (by decide) rfl wd1149 rfl (fun _ => rfl) (fun _ => rfl) (fun q => absurd (hf.symm.trans q) (by decide)) rfl hin rfl dX10_init_57 ?_
  refine j_aload_n hX 0 dX10_init_60 rfl rfl ?_
  refine j_iconst hX dX10_init_61 (rc rfl) ?_
  refine j_newa_i (N := 3) hX hf rfl (by decide) ty64 wd160 ⟨by rw [hcl]; decide, by rw [hsl]; decide⟩ dX10_init_62 (fun B1 hB1 => ?_)
  have hB := fun i hi => (hB1 i (Nat.lt_of_lt_of_le hi (by decide))).trans (hB i hi)
  clear hB1
  refine j_dup hX dX10_init_64 rfl ?_
  refine j_iconst hX dX10_init_65 (rc rfl) ?_
  refine j_iconst hX dX10_init_66 (rc rfl) ?_
  refine j_iast (E := fun S => S) (P := fun _ => True) hX (Lens.id _) ty64 trivial (stk_c (k := 0) (by decide)) dX10_init_67 ?_
  refine j_dup hX dX10_init_68 rfl ?_
  refine j_iconst hX dX10_init_69 (rc rfl) ?_
  refine j_iconst hX dX10_init_70 (rc rfl) ?_
  refine j_iast (E := fun S => S) (P := fun _ => True) hX (Lens.id _) ty64 trivial (stk_c (k := 1) (by decide)) dX10_init_71 ?_
  refine j_dup hX dX10_init_72 rfl ?_
  refine j_iconst hX dX10_init_73 (rc rfl) ?_
  refine j_bipush hX dX10_init_74 (rc rfl) (by decide) ?_
  refine j_iast (E := fun S => S) (P := fun _ => True) hX (Lens.id _) ty64 trivial (stk_c (k := 2) (by decide)) dX10_init_76 ?_
  refine j_putRF (E := fun S => S) (P := fun _ => True) (k := 10) hX (Lens.id _) cbX10 ty56 trivial (by decide) rfl wd1150 rfl (fun _ => rfl) (fun _ => rfl) (fun q => absurd (hf.symm.trans q) (by decide)) rfl hin rfl dX10_init_77 ?_
  refine j_aload_n hX 0 dX10_init_80 rfl rfl ?_
  refine j_bipush hX dX10_init_81 (rc rfl) (by decide) ?_
  refine j_newa_i (N := 40) hX hf rfl (by decide) ty65 wd160 ⟨by rw [hcl]; decide, by rw [hsl]; decide⟩ dX10_init_83 (fun B1 hB1 => ?_)
  have hB := fun i hi => (hB1 i (Nat.lt_of_lt_of_le hi (by decide))).trans (hB i hi)
  clear hB1
  refine j_putRF (E := fun S => S) (P := fun _ => True) (k := 13) hX (Lens.id _) cbX10 ty56 trivial (by decide) rfl wd1153 rfl (fun _ => rfl) (fun _ => rfl) (fun q => absurd (hf.symm.trans q) (by decide)) rfl hin rfl dX10_init_85 ?_
  refine j_aload_n hX 0 dX10_init_88 rfl rfl ?_
  refine j_bipush hX dX10_init_89 (rc rfl) (by decide) ?_
  refine j_newa_i (N := 40) hX hf rfl (by decide) ty66 wd160 ⟨by rw [hcl]; decide, by rw [hsl]; decide⟩ dX10_init_91 (fun B1 hB1 => ?_)
  have hB := fun i hi => (hB1 i (Nat.lt_of_lt_of_le hi (by decide))).trans (hB i hi)
  clear hB1
  refine j_putRF (E := fun S => S) (P := fun _ => True) (k := 14) hX (Lens.id _) cbX10 ty56 trivial (by decide) rfl wd1154 rfl (fun _ => rfl) (fun _ => rfl) (fun q => absurd (hf.symm.trans q) (by decide)) rfl hin rfl dX10_init_93 ?_
  refine j_aload_n hX 0 dX10_init_96 rfl rfl ?_
  refine j_bipush hX dX10_init_97 (rc rfl) (by decide) ?_
  refine j_newa_i (N := 40) hX hf rfl (by decide) ty67 wd160 ⟨by rw [hcl]; decide, by rw [hsl]; decide⟩ dX10_init_99 (fun B1 hB1 => ?_)
  have hB := fun i hi => (hB1 i (Nat.lt_of_lt_of_le hi (by decide))).trans (hB i hi)
  clear hB1
  refine j_putRF (E := fun S => S) (P := fun _ => True) (k := 15) hX (Lens.id _) cbX10 ty56 trivial (by decide) rfl wd1155 rfl (fun _ => rfl) (fun _ => rfl) (fun q => absurd (hf.symm.trans q) (by decide)) rfl hin rfl dX10_init_101 ?_
  refine j_aload_n hX 0 dX10_init_104 rfl rfl ?_
  refine j_bipush hX dX10_init_105 (rc rfl) (by decide) ?_
  refine j_newa_i (N := 40) hX hf rfl (by decide) ty68 wd160 ⟨by rw [hcl]; decide, by rw [hsl]; decide⟩ dX10_init_107 (fun B1 hB1 => ?_)
  have hB := fun i hi => (hB1 i (Nat.lt_of_lt_of_le hi (by decide))).trans (hB i hi)
  clear hB1
  refine j_putRF (E := fun S => S) (P := fun _ => True) (k := 16) hX (Lens.id _) cbX10 ty56 trivial (by decide) rfl wd1156 rfl (fun _ => rfl) (fun _ => rfl) (fun q => absurd (hf.symm.trans q) (by decide)) rfl hin rfl dX10_init_109 ?_
  refine j_aload_n hX 0 dX10_init_112 rfl rfl ?_
  refine j_bipush hX dX10_init_113 (rc rfl) (by decide) ?_
  refine j_newa_b (N := 120) hX hf rfl (by decide) ty69 wd213 ⟨by rw [hcl]; decide, by rw [hsl]; decide⟩ dX10_init_115 (fun B1 hB1 => ?_)
  have hB := fun i hi => (hB1 i (Nat.lt_of_lt_of_le hi (by decide))).trans (hB i hi)
  clear hB1
  refine j_putRF (E := fun S => S) (P := fun _ => True) (k := 17) hX (Lens.id _) cbX10 ty56 trivial (by decide) rfl wd1157 rfl (fun _ => rfl) (fun _ => rfl) (fun q => absurd (hf.symm.trans q) (by decide)) rfl hin rfl dX10_init_117 ?_
  refine j_aload_n hX 0 dX10_init_120 rfl rfl ?_
  refine j_sipush hX dX10_init_121 (rc rfl) (by decide) ?_
  refine j_newa_b (N := 260) hX hf rfl (by decide) ty70 wd213 ⟨by rw [hcl]; decide, by rw [hsl]; decide⟩ dX10_init_124 (fun B1 hB1 => ?_)
  have hB := fun i hi => (hB1 i (Nat.lt_of_lt_of_le hi (by decide))).trans (hB i hi)
  clear hB1
  refine j_putRF (E := fun S => S) (P := fun _ => True) (k := 23) hX (Lens.id _) cbX10 ty56 trivial (by decide) rfl wd1163 rfl (fun _ => rfl) (fun _ => rfl) (fun q => absurd (hf.symm.trans q) (by decide)) rfl hin rfl dX10_init_126 ?_
  refine j_aload_n hX 0 dX10_init_129 rfl rfl ?_
  refine j_sipush hX dX10_init_130 (rc rfl) (by decide) ?_
  refine j_newa_i (N := 260) hX hf rfl (by decide) ty71 wd160 ⟨by rw [hcl]; decide, by rw [hsl]; decide⟩ dX10_init_133 (fun B1 hB1 => ?_)
  have hB := fun i hi => (hB1 i (Nat.lt_of_lt_of_le hi (by decide))).trans (hB i hi)
  clear hB1
  refine j_putRF (E := fun S => S) (P := fun _ => True) (k := 24) hX (Lens.id _) cbX10 ty56 trivial (by decide) rfl wd1164 rfl (fun _ => rfl) (fun _ => rfl) (fun q => absurd (hf.symm.trans q) (by decide)) rfl hin rfl dX10_init_135 ?_
  refine j_aload_n hX 0 dX10_init_138 rfl rfl ?_
  refine j_iconst hX dX10_init_139 (rc rfl) ?_
  refine j_newa_i (N := 2) hX hf rfl (by decide) ty72 wd160 ⟨by rw [hcl]; decide, by rw [hsl]; decide⟩ dX10_init_140 (fun B1 hB1 => ?_)
  have hB := fun i hi => (hB1 i (Nat.lt_of_lt_of_le hi (by decide))).trans (hB i hi)
  clear hB1
  refine j_putRF (E := fun S => S) (P := fun _ => True) (k := 25) hX (Lens.id _) cbX10 ty56 trivial (by decide) rfl wd1165 rfl (fun _ => rfl) (fun _ => rfl) (fun q => absurd (hf.symm.trans q) (by decide)) rfl hin rfl dX10_init_142 ?_
  refine j_aload_n hX 0 dX10_init_145 rfl rfl ?_
  refine j_bipush hX dX10_init_146 (rc rfl) (by decide) ?_
  refine j_newa_s (N := 122) hX hf rfl (by decide) ty73 wd1321 ⟨by rw [hcl]; decide, by rw [hsl]; decide⟩ dX10_init_148 (fun B1 hB1 => ?_)
  have hB := fun i hi => (hB1 i (Nat.lt_of_lt_of_le hi (by decide))).trans (hB i hi)
  clear hB1
  refine j_putRF (E := fun S => S) (P := fun _ => True) (k := 26) hX (Lens.id _) cbX10 ty56 trivial (by decide) rfl wd1166 rfl (fun _ => rfl) (fun _ => rfl) (fun q => absurd (hf.symm.trans q) (by decide)) rfl hin rfl dX10_init_150 ?_
  refine j_aload_n hX 0 dX10_init_153 rfl rfl ?_
  refine j_bipush hX dX10_init_154 (rc rfl) (by decide) ?_
  refine j_newa_s (N := 122) hX hf rfl (by decide) ty74 wd1321 ⟨by rw [hcl]; decide, by rw [hsl]; decide⟩ dX10_init_156 (fun B1 hB1 => ?_)
  have hB := fun i hi => (hB1 i (Nat.lt_of_lt_of_le hi (by decide))).trans (hB i hi)
  clear hB1
  refine j_putRF (E := fun S => S) (P := fun _ => True) (k := 27) hX (Lens.id _) cbX10 ty56 trivial (by decide) rfl wd1167 rfl (fun _ => rfl) (fun _ => rfl) (fun q => absurd (hf.symm.trans q) (by decide)) rfl hin rfl dX10_init_158 ?_
  refine j_aload_n hX 0 dX10_init_161 rfl rfl ?_
  refine j_bipush hX dX10_init_162 (rc rfl) (by decide) ?_
  refine j_newa_i (N := 6) hX hf rfl (by decide) ty75 wd160 ⟨by rw [hcl]; decide, by rw [hsl]; decide⟩ dX10_init_164 (fun B1 hB1 => ?_)
  have hB := fun i hi => (hB1 i (Nat.lt_of_lt_of_le hi (by decide))).trans (hB i hi)
  clear hB1
  refine j_putRF (E := fun S => S) (P := fun _ => True) (k := 28) hX (Lens.id _) cbX10 ty56 trivial (by decide) rfl wd1168 rfl (fun _ => rfl) (fun _ => rfl) (fun q => absurd (hf.symm.trans q) (by decide)) rfl hin rfl dX10_init_166 ?_
  refine j_aload_n hX 0 dX10_init_169 rfl rfl ?_
  refine j_sipush hX dX10_init_170 (rc rfl) (by decide) ?_
  refine j_newa_i (N := 130) hX hf rfl (by decide) ty76 wd160 ⟨by rw [hcl]; decide, by rw [hsl]; decide⟩ dX10_init_173 (fun B1 hB1 => ?_)
  have hB := fun i hi => (hB1 i (Nat.lt_of_lt_of_le hi (by decide))).trans (hB i hi)
  clear hB1
  refine j_putRF (E := fun S => S) (P := fun _ => True) (k := 29) hX (Lens.id _) cbX10 ty56 trivial (by decide) rfl wd1169 rfl (fun _ => rfl) (fun _ => rfl) (fun q => absurd (hf.symm.trans q) (by decide)) rfl hin rfl dX10_init_175 ?_
  refine j_aload_n hX 0 dX10_init_178 rfl rfl ?_
  refine j_bipush hX dX10_init_179 (rc rfl) (by decide) ?_
  refine j_newa_i (N := 12) hX hf rfl (by decide) ty77 wd160 ⟨by rw [hcl]; decide, by rw [hsl]; decide⟩ dX10_init_181 (fun B1 hB1 => ?_)
  have hB := fun i hi => (hB1 i (Nat.lt_of_lt_of_le hi (by decide))).trans (hB i hi)
  clear hB1
  refine j_putRF (E := fun S => S) (P := fun _ => True) (k := 31) hX (Lens.id _) cbX10 ty56 trivial (by decide) rfl wd1171 rfl (fun _ => rfl) (fun _ => rfl) (fun q => absurd (hf.symm.trans q) (by decide)) rfl hin rfl dX10_init_183 ?_
  refine j_aload_n hX 0 dX10_init_186 rfl rfl ?_
  refine j_bipush hX dX10_init_187 (rc rfl) (by decide) ?_
  refine j_newa_i (N := 13) hX hf rfl (by decide) ty78 wd160 ⟨by rw [hcl]; decide, by rw [hsl]; decide⟩ dX10_init_189 (fun B1 hB1 => ?_)
  have hB := fun i hi => (hB1 i (Nat.lt_of_lt_of_le hi (by decide))).trans (hB i hi)
  clear hB1
  refine j_putRF (E := fun S => S) (P := fun _ => True) (k := 33) hX (Lens.id _) cbX10 ty56 trivial (by decide) rfl wd1173 rfl (fun _ => rfl) (fun _ => rfl) (fun q => absurd (hf.symm.trans q) (by decide)) rfl hin rfl dX10_init_191 ?_
  refine j_aload_n hX 0 dX10_init_194 rfl rfl ?_
  refine j_bipush hX dX10_init_195 (rc rfl) (by decide) ?_
  refine j_newa_i (N := 13) hX hf rfl (by decide) ty79 wd160 ⟨by rw [hcl]; decide, by rw [hsl]; decide⟩ dX10_init_197 (fun B1 hB1 => ?_)
  have hB := fun i hi => (hB1 i (Nat.lt_of_lt_of_le hi (by decide))).trans (hB i hi)
  clear hB1
  refine j_putRF (E := fun S => S) (P := fun _ => True) (k := 34) hX (Lens.id _) cbX10 ty56 trivial (by decide) rfl wd1174 rfl (fun _ => rfl) (fun _ => rfl) (fun q => absurd (hf.symm.trans q) (by decide)) rfl hin rfl dX10_init_199 ?_
  refine j_aload_n hX 0 dX10_init_202 rfl rfl ?_
  refine j_sipush hX dX10_init_203 (rc rfl) (by decide) ?_
  refine j_newa_i (N := 3584) hX hf rfl (by decide) ty80 wd160 ⟨by rw [hcl]; decide, by rw [hsl]; decide⟩ dX10_init_206 (fun B1 hB1 => ?_)
  have hB := fun i hi => (hB1 i (Nat.lt_of_lt_of_le hi (by decide))).trans (hB i hi)
  clear hB1
  refine j_putRF (E := fun S => S) (P := fun _ => True) (k := 35) hX (Lens.id _) cbX10 ty56 trivial (by decide) rfl wd1175 rfl (fun _ => rfl) (fun _ => rfl) (fun q => absurd (hf.symm.trans q) (by decide)) rfl hin rfl dX10_init_208 ?_
  refine j_aload_n hX 0 dX10_init_211 rfl rfl ?_
  refine j_sipush hX dX10_init_212 (rc rfl) (by decide) ?_
  refine j_newa_i (N := 512) hX hf rfl (by decide) ty81 wd160 ⟨by rw [hcl]; decide, by rw [hsl]; decide⟩ dX10_init_215 (fun B1 hB1 => ?_)
  have hB := fun i hi => (hB1 i (Nat.lt_of_lt_of_le hi (by decide))).trans (hB i hi)
  clear hB1
  refine j_putRF (E := fun S => S) (P := fun _ => True) (k := 38) hX (Lens.id _) cbX10 ty56 trivial (by decide) rfl wd1178 rfl (fun _ => rfl) (fun _ => rfl) (fun q => absurd (hf.symm.trans q) (by decide)) rfl hin rfl dX10_init_217 ?_
  refine j_aload_n hX 0 dX10_init_220 rfl rfl ?_
  refine j_sipush hX dX10_init_221 (rc rfl) (by decide) ?_
  refine j_newa_i (N := 512) hX hf rfl (by decide) ty82 wd160 ⟨by rw [hcl]; decide, by rw [hsl]; decide⟩ dX10_init_224 (fun B1 hB1 => ?_)
  have hB := fun i hi => (hB1 i (Nat.lt_of_lt_of_le hi (by decide))).trans (hB i hi)
  clear hB1
  refine j_putRF (E := fun S => S) (P := fun _ => True) (k := 39) hX (Lens.id _) cbX10 ty56 trivial (by decide) rfl wd1179 rfl (fun _ => rfl) (fun _ => rfl) (fun q => absurd (hf.symm.trans q) (by decide)) rfl hin rfl dX10_init_226 ?_
  refine j_aload_n hX 0 dX10_init_229 rfl rfl ?_
  refine j_bipush hX dX10_init_230 (rc rfl) (by decide) ?_
  refine j_newa_i (N := 64) hX hf rfl (by decide) ty83 wd160 ⟨by rw [hcl]; decide, by rw [hsl]; decide⟩ dX10_init_232 (fun B1 hB1 => ?_)
  have hB := fun i hi => (hB1 i (Nat.lt_of_lt_of_le hi (by decide))).trans (hB i hi)
  clear hB1
  refine j_putRF (E := fun S => S) (P := fun _ => True) (k := 40) hX (Lens.id _) cbX10 ty56 trivial (by decide) rfl wd1180 rfl (fun _ => rfl) (fun _ => rfl) (fun q => absurd (hf.symm.trans q) (by decide)) rfl hin rfl dX10_init_234 ?_
  refine j_aload_n hX 0 dX10_init_237 rfl rfl ?_
  refine j_bipush hX dX10_init_238 (rc rfl) (by decide) ?_
  refine j_newa_l (N := 112) hX hf rfl (by decide) ty84 wd238 ⟨by rw [hcl]; decide, by rw [hsl]; decide⟩ dX10_init_240 (fun B1 hB1 => ?_)
  have hB := fun i hi => (hB1 i (Nat.lt_of_lt_of_le hi (by decide))).trans (hB i hi)
  clear hB1
  refine j_putRF (E := fun S => S) (P := fun _ => True) (k := 41) hX (Lens.id _) cbX10 ty56 trivial (by decide) rfl wd1181 rfl (fun _ => rfl) (fun _ => rfl) (fun q => absurd (hf.symm.trans q) (by decide)) rfl hin rfl dX10_init_242 ?_
  refine j_aload_n hX 0 dX10_init_245 rfl rfl ?_
  refine j_bipush hX dX10_init_246 (rc rfl) (by decide) ?_
  refine j_newa_l (N := 112) hX hf rfl (by decide) ty85 wd238 ⟨by rw [hcl]; decide, by rw [hsl]; decide⟩ dX10_init_248 (fun B1 hB1 => ?_)
  have hB := fun i hi => (hB1 i (Nat.lt_of_lt_of_le hi (by decide))).trans (hB i hi)
  clear hB1
  refine j_putRF (E := fun S => S) (P := fun _ => True) (k := 42) hX (Lens.id _) cbX10 ty56 trivial (by decide) rfl wd1182 rfl (fun _ => rfl) (fun _ => rfl) (fun q => absurd (hf.symm.trans q) (by decide)) rfl hin rfl dX10_init_250 ?_
  refine j_aload_n hX 0 dX10_init_253 rfl rfl ?_
  refine j_bipush hX dX10_init_254 (rc rfl) (by decide) ?_
  refine j_newa_l (N := 112) hX hf rfl (by decide) ty86 wd238 ⟨by rw [hcl]; decide, by rw [hsl]; decide⟩ dX10_init_256 (fun B1 hB1 => ?_)
  have hB := fun i hi => (hB1 i (Nat.lt_of_lt_of_le hi (by decide))).trans (hB i hi)
  clear hB1
  refine j_putRF (E := fun S => S) (P := fun _ => True) (k := 43) hX (Lens.id _) cbX10 ty56 trivial (by decide) rfl wd1183 rfl (fun _ => rfl) (fun _ => rfl) (fun q => absurd (hf.symm.trans q) (by decide)) rfl hin rfl dX10_init_258 ?_
  refine j_aload_n hX 0 dX10_init_261 rfl rfl ?_
  refine j_iconst hX dX10_init_262 (rc rfl) ?_
  refine j_newa_i (N := 5) hX hf rfl (by decide) ty87 wd160 ⟨by rw [hcl]; decide, by rw [hsl]; decide⟩ dX10_init_263 (fun B1 hB1 => ?_)
  have hB := fun i hi => (hB1 i (Nat.lt_of_lt_of_le hi (by decide))).trans (hB i hi)
  clear hB1
  refine j_putRF (E := fun S => S) (P := fun _ => True) (k := 45) hX (Lens.id _) cbX10 ty56 trivial (by decide) rfl wd1185 rfl (fun _ => rfl) (fun _ => rfl) (fun q => absurd (hf.symm.trans q) (by decide)) rfl hin rfl dX10_init_265 ?_
  refine j_aload_n hX 0 dX10_init_268 rfl rfl ?_
  refine j_bipush hX dX10_init_269 (rc rfl) (by decide) ?_
  refine j_newa_i (N := 6) hX hf rfl (by decide) ty88 wd160 ⟨by rw [hcl]; decide, by rw [hsl]; decide⟩ dX10_init_271 (fun B1 hB1 => ?_)
  have hB := fun i hi => (hB1 i (Nat.lt_of_lt_of_le hi (by decide))).trans (hB i hi)
  clear hB1
  refine j_putRF (E := fun S => S) (P := fun _ => True) (k := 49) hX (Lens.id _) cbX10 ty56 trivial (by decide) rfl wd1189 rfl (fun _ => rfl) (fun _ => rfl) (fun q => absurd (hf.symm.trans q) (by decide)) rfl hin rfl dX10_init_273 ?_
  refine j_aload_n hX 0 dX10_init_276 rfl rfl ?_
  refine j_bipush hX dX10_init_277 (rc rfl) (by decide) ?_
  refine j_newa_i (N := 6) hX hf rfl (by decide) ty89 wd160 ⟨by rw [hcl]; decide, by rw [hsl]; decide⟩ dX10_init_279 (fun B1 hB1 => ?_)
  have hB := fun i hi => (hB1 i (Nat.lt_of_lt_of_le hi (by decide))).trans (hB i hi)
  clear hB1
  refine j_putRF (E := fun S => S) (P := fun _ => True) (k := 50) hX (Lens.id _) cbX10 ty56 trivial (by decide) rfl wd1190 rfl (fun _ => rfl) (fun _ => rfl) (fun q => absurd (hf.symm.trans q) (by decide)) rfl hin rfl dX10_init_281 ?_
  refine j_aload_n hX 0 dX10_init_284 rfl rfl ?_
  refine j_iconst hX dX10_init_285 (rc rfl) ?_
  refine j_newa_i (N := 5) hX hf rfl (by decide) ty90 wd160 ⟨by rw [hcl]; decide, by rw [hsl]; decide⟩ dX10_init_286 (fun B1 hB1 => ?_)
  have hB := fun i hi => (hB1 i (Nat.lt_of_lt_of_le hi (by decide))).trans (hB i hi)
  clear hB1
  refine j_putRF (E := fun S => S) (P := fun _ => True) (k := 51) hX (Lens.id _) cbX10 ty56 trivial (by decide) rfl wd1191 rfl (fun _ => rfl) (fun _ => rfl) (fun q => absurd (hf.symm.trans q) (by decide)) rfl hin rfl dX10_init_288 ?_
  refine j_aload_n hX 0 dX10_init_291 rfl rfl ?_
  refine j_bipush hX dX10_init_292 (rc rfl) (by decide) ?_
  refine j_newa_i (N := 50) hX hf rfl (by decide) ty91 wd160 ⟨by rw [hcl]; decide, by rw [hsl]; decide⟩ dX10_init_294 (fun B1 hB1 => ?_)
  have hB := fun i hi => (hB1 i (Nat.lt_of_lt_of_le hi (by decide))).trans (hB i hi)
  clear hB1
  refine j_putRF (E := fun S => S) (P := fun _ => True) (k := 53) hX (Lens.id _) cbX10 ty56 trivial (by decide) rfl wd1193 rfl (fun _ => rfl) (fun _ => rfl) (fun q => absurd (hf.symm.trans q) (by decide)) rfl hin rfl dX10_init_296 ?_
  refine j_aload_n hX 0 dX10_init_299 rfl rfl ?_
  refine j_bipush hX dX10_init_300 (rc rfl) (by decide) ?_
  refine j_newa_i (N := 24) hX hf rfl (by decide) ty92 wd160 ⟨by rw [hcl]; decide, by rw [hsl]; decide⟩ dX10_init_302 (fun B1 hB1 => ?_)
  have hB := fun i hi => (hB1 i (Nat.lt_of_lt_of_le hi (by decide))).trans (hB i hi)
  clear hB1
  refine j_putRF (E := fun S => S) (P := fun _ => True) (k := 55) hX (Lens.id _) cbX10 ty56 trivial (by decide) rfl wd1195 rfl (fun _ => rfl) (fun _ => rfl) (fun q => absurd (hf.symm.trans q) (by decide)) rfl hin rfl dX10_init_304 ?_
  refine j_aload_n hX 0 dX10_init_307 rfl rfl ?_
  refine j_bipush hX dX10_init_308 (rc rfl) (by decide) ?_
  refine j_newa_i (N := 6) hX hf rfl (by decide) ty93 wd160 ⟨by rw [hcl]; decide, by rw [hsl]; decide⟩ dX10_init_310 (fun B1 hB1 => ?_)
  have hB := fun i hi => (hB1 i (Nat.lt_of_lt_of_le hi (by decide))).trans (hB i hi)
  clear hB1
  refine j_dup hX dX10_init_312 rfl ?_
  refine j_iconst hX dX10_init_313 (rc rfl) ?_
  refine j_iconst hX dX10_init_314 (rc rfl) ?_
  refine j_iast (E := fun S => S) (P := fun _ => True) hX (Lens.id _) ty93 trivial (stk_c (k := 0) (by decide)) dX10_init_315 ?_
  refine j_dup hX dX10_init_316 rfl ?_
  refine j_iconst hX dX10_init_317 (rc rfl) ?_
  refine j_iconst hX dX10_init_318 (rc rfl) ?_
  refine j_iast (E := fun S => S) (P := fun _ => True) hX (Lens.id _) ty93 trivial (stk_c (k := 1) (by decide)) dX10_init_319 ?_
  refine j_dup hX dX10_init_320 rfl ?_
  refine j_iconst hX dX10_init_321 (rc rfl) ?_
  refine j_iconst hX dX10_init_322 (rc rfl) ?_
  refine j_iast (E := fun S => S) (P := fun _ => True) hX (Lens.id _) ty93 trivial (stk_c (k := 2) (by decide)) dX10_init_323 ?_
  refine j_dup hX dX10_init_324 rfl ?_
  refine j_iconst hX dX10_init_325 (rc rfl) ?_
  refine j_iconst hX dX10_init_326 (rc rfl) ?_
  refine j_iast (E := fun S => S) (P := fun _ => True) hX (Lens.id _) ty93 trivial (stk_c (k := 3) (by decide)) dX10_init_327 ?_
  refine j_dup hX dX10_init_328 rfl ?_
  refine j_iconst hX dX10_init_329 (rc rfl) ?_
  refine j_iconst hX dX10_init_330 (rc rfl) ?_
  refine j_iast (E := fun S => S) (P := fun _ => True) hX (Lens.id _) ty93 trivial (stk_c (k := 4) (by decide)) dX10_init_331 ?_
  refine j_dup hX dX10_init_332 rfl ?_
  refine j_iconst hX dX10_init_333 (rc rfl) ?_
  refine j_iconst hX dX10_init_334 (rc rfl) ?_
  refine j_iast (E := fun S => S) (P := fun _ => True) hX (Lens.id _) ty93 trivial (stk_c (k := 5) (by decide)) dX10_init_335 ?_
  refine j_putRF (E := fun S => S) (P := fun _ => True) (k := 56) hX (Lens.id _) cbX10 ty56 trivial (by decide) rfl wd1196 rfl (fun _ => rfl) (fun _ => rfl) (fun q => absurd (hf.symm.trans q) (by decide)) rfl hin rfl dX10_init_336 ?_
  refine j_aload_n hX 0 dX10_init_339 rfl rfl ?_
  refine j_bipush hX dX10_init_340 (rc rfl) (by decide) ?_
  refine j_newa_i (N := 6) hX hf rfl (by decide) ty94 wd160 ⟨by rw [hcl]; decide, by rw [hsl]; decide⟩ dX10_init_342 (fun B1 hB1 => ?_)
  have hB := fun i hi => (hB1 i (Nat.lt_of_lt_of_le hi (by decide))).trans (hB i hi)
  clear hB1
  refine j_putRF (E := fun S => S) (P := fun _ => True) (k := 57) hX (Lens.id _) cbX10 ty56 trivial (by decide) rfl wd1197 rfl (fun _ => rfl) (fun _ => rfl) (fun q => absurd (hf.symm.trans q) (by decide)) rfl hin rfl dX10_init_344 ?_
  refine j_aload_n hX 0 dX10_init_347 rfl rfl ?_
  refine j_sipush hX dX10_init_348 (rc rfl) (by decide) ?_
  refine j_newa_l (N := 360) hX hf rfl (by decide) ty95 wd238 ⟨by rw [hcl]; decide, by rw [hsl]; decide⟩ dX10_init_351 (fun B1 hB1 => ?_)
  have hB := fun i hi => (hB1 i (Nat.lt_of_lt_of_le hi (by decide))).trans (hB i hi)
  clear hB1
  refine j_putRF (E := fun S => S) (P := fun _ => True) (k := 58) hX (Lens.id _) cbX10 ty56 trivial (by decide) rfl wd1198 rfl (fun _ => rfl) (fun _ => rfl) (fun q => absurd (hf.symm.trans q) (by decide)) rfl hin rfl dX10_init_353 ?_
  refine j_aload_n hX 0 dX10_init_356 rfl rfl ?_
  refine j_bipush hX dX10_init_357 (rc rfl) (by decide) ?_
  refine j_newa_l (N := 60) hX hf rfl (by decide) ty96 wd238 ⟨by rw [hcl]; decide, by rw [hsl]; decide⟩ dX10_init_359 (fun B1 hB1 => ?_)
  have hB := fun i hi => (hB1 i (Nat.lt_of_lt_of_le hi (by decide))).trans (hB i hi)
  clear hB1
  refine j_putRF (E := fun S => S) (P := fun _ => True) (k := 59) hX (Lens.id _) cbX10 ty56 trivial (by decide) rfl wd1199 rfl (fun _ => rfl) (fun _ => rfl) (fun q => absurd (hf.symm.trans q) (by decide)) rfl hin rfl dX10_init_361 ?_
  exact j_cret hX hR hB dX10_init_364
