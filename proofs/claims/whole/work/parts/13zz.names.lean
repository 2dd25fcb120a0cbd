/-! THE TEXT OF NAMES: String's own members over it, walked -/
def SV (X : K0) (t v : Nat) : Prop := match X with
  | (p, l, e, R, s, m, args, below, meth, c, A, D, cA, f, nL) => vk_S 1 [6] [[99, 115, 108, 112, 100, 119]] (fun _ => t) (fun _ => v) A s s.heap
def WdS (g : G0) (B : Nat → Nat) (n t v : Nat) (M : Mem) (U : State) : Prop := Wd g B n M U ∧ vk_S 1 [6] [[99, 115, 108, 112, 100, 119]] (fun _ => t) (fun _ => v) g.2.1 U U.heap
def CnS (g : G0) (B : Nat → Nat) (n t v : Nat) (y : MethodName) (cc : ByteArray) (maxL : Nat) (ret : Option FieldType) (d : Nat) (a : List AV) (M : Mem) (Qc : Array Value → State → Outcome → State → Prop) : Prop := PreM g B n a M → Met g.1 y (.code y cc maxL ret :: TB) (rmD d) (va_Pc (a.map (cv B)) (WdS g B n t v M)) Qc 0 0 g.2.1
theorem WdS.blind {g : G0} {B : Nat → Nat} {n t v : Nat} {M : Mem} {av : List Value} : FrameBlind (va_Pc av (WdS g B n t v M)) := by
  intro a U fr mk q
  obtain ⟨q0, ⟨qP, qK, qF, qA⟩, qV⟩ := q
  exact ⟨q0, ⟨qP, va_K.moved (u := U) (U := U.calling fr mk a) (Vm.Alike.refl U.vm) qK, SF.call qF, qA⟩, vk_S.moved (u := U) (U := U.calling fr mk a) (Vm.Alike.refl U.vm) qV⟩
theorem CnS.of {g : G0} {B : Nat → Nat} {n t v : Nat} {y : MethodName} {cc : ByteArray} {maxL : Nat} {ret : Option FieldType} {d : Nat} {a : List AV} {M : Mem} {Qc : Array Value → State → Outcome → State → Prop} (hy : plainName y.cls = true) (hsz : (a.map fun v => if ct v = 2 then 2 else 1).sum ≤ maxL) (k : ∀ X : K0, gX X = g → X.2.2.2.2.2.2.2.2.2.2.2.2.2.2 = maxL → Ctx X cc y.cls d → CR X ret → SV X t v → JW X B n 0 0 0 (aL 0 a) [] M (QM X Qc)) : CnS g B n t v y cc maxL ret d a M Qc := by
  intro hPre
  refine Met.ofW (cc := cc) (maxL := maxL) (ret := ret) hy rfl ?_
  intro p e s m args below meth c s₁ Bd hml hv
  obtain ⟨rfl, ⟨hP, hK, hSF, hA⟩, hV⟩ := hv
  have hts : ∀ w ∈ TB, w.before (a.map (cv B)).toArray s = true := fun w hw => atoms_spec (ws := .code y cc maxL ret :: TB) Bd.pre w (List.mem_cons_of_mem _ hw)
  have hown : s.vm.findClass y.cls = some m.cls := findClass_of_methodNamed Bd.named
  rw [lg_entry_eq]
  have hl := lv_entry (a.map (cv B)) (n := maxL) (by rw [sl_len]; exact hsz)
  rw [aL_lm] at hl
  exact k (p, g.1, e, (headSpec (.code y cc maxL ret :: TB) (rmD d)).room, s, m, (a.map (cv B)).toArray, below, meth, c, g.2.1, g.2.2.1, g.2.2.2.1, g.2.2.2.2, maxL) rfl rfl ⟨Bd.exec, Bd.bytes, hml, hown, hts, hK, hA, hSF, Nat.le_refl _, Nat.le_refl _⟩ ⟨Bd.returns, Bd.notSynchronized⟩ hV (aL_rg hPre.1 0) (fun v h => by cases h) hPre.2.1 hPre.2.2.1 hPre.2.2.2 s.heap [] _ hP va_S.rf hl
section JV
variable {X : K0} {cc : ByteArray} {own : String} {d : Nat} {B : Nat → Nat} {n k2 k3 pc : Nat} {L : List (Nat × AV)} {st stk' : List AV} {M M' : Mem} {Q : State → Prop} {t v : Nat}
variable {y : MethodName} {ccy : ByteArray} {maxL dc ix : Nat} {ret : Option FieldType} {as : List AV} {r : Int}
theorem j_cV (hX : Ctx X cc own d) (hV : SV X t v) (hMW : MW y ccy maxL ret) (hMI : MI y) (hml : Cond.methodLink own ix y ∈ TB) (hyc : y.cls = "java/lang/String") (hy : y.cls ≠ "java/lang/invoke/MethodHandle" ∧ y.cls ≠ "java/lang/invoke/VarHandle") (hdc : dc + 1 ≤ d) (hmx : maxL ≤ 41) (hcs : k2 ≤ X.2.2.2.1.cells ∧ k3 ≤ X.2.2.2.1.slots) (hd : decode cc pc = .ok (.invokevirtual ix, 3)) (hC : CnS (gX X) B n t v y ccy maxL ret dc (vX (.ref t) :: as) M (QcI (gX X) B n r M')) (hn : (parseMethodDescriptor y.desc).map (fun d => d.parameters.length) = some as.length) (hs : stk' = as.reverse ++ vX (.ref t) :: st) (hst : (st.map ct).sum ≤ 8) (kk : JW X B n k2 k3 (pc + 3) L (vI r :: st) M' Q) : JW X B n k2 k3 pc L stk' M Q := by
  subst hs
  obtain ⟨p, l, e, R, s, m, args, below, meth, c, A, D, cA, f, nL⟩ := X
  obtain ⟨hx, hb, hmL, hown, hts, hK, hA, hSF, hdf, hdl⟩ := hX
  have hV : vk_S 1 [6] [[99, 115, 108, 112, 100, 119]] (fun _ => t) (fun _ => v) A s s.heap := hV
  intro hrL hrS hM hSH hW H locs ls hP hS hl
  have hr1 : ∀ v ∈ as, rg n v := fun v hv => hrS v (List.mem_append_left _ (List.mem_reverse.mpr hv))
  have hr2 : ∀ v ∈ vX (.ref t) :: st, rg n v := fun v hv => hrS v (List.mem_append_right _ hv)
  have hMet := hC ⟨rcons (rh hr2) hr1, hM, hSH, hW⟩
  have hpre : ∀ U : State, U.heap = H → s.WarmedH U.vm → WdS (gX (p, l, e, R, s, m, args, below, meth, c, A, D, cA, f, nL)) B n t v M U := fun U hU hWm => ⟨⟨by rw [hU]; exact hP, va_K.moved hWm.alike hK, SF.go hSF hS hWm hU, fun q hq => hA q (Nat.le_trans hS.1 (by rw [← hU]; exact hq))⟩, vk_S.moved hWm.alike (hV.kept (fun q g1 g2 => by rw [hU]; exact hS.2.1 q g1 g2))⟩
  have hsm : ((st.map (cv B)).map fun v => v.category).sum ≤ 8 := by
    have e : (st.map (cv B)).map (fun v => v.category) = st.map ct := by rw [List.map_map]; exact List.map_congr_left (fun v _ => cv_ct B v)
    rw [e]; exact hst
  have hfr : (rmD dc).frames + 1 ≤ R.frames ∧ 8 + (maxL + 11) + (rmD dc).locals ≤ R.locals := ⟨Nat.le_trans hdc hdf, by show 8 + (maxL + 11) + 60 * dc ≤ R.locals; omega⟩
  have hrec : ∃ cell : Cell, H[t]? = some cell ∧ cell.vm.isStatics = false ∧ s.vm.findClass y.cls = some cell.cls := by
    rw [hyc]
    exact vk_recv hV (i := 0) (by decide) hS
  refine va_calli (A0 := A) (A1 := A) (va_runV (As := as.map (cv B)) (rest := st.map (cv B)) (C := y.cls) (n := as.length) (b := t) ⟨hx, hb, hmL, hown, hts⟩ hMet (cwV as.length hts (TB_in (fun w hw => by rcases List.mem_append.mp hw with h | h; (· simp only [List.mem_cons, List.not_mem_nil, or_false] at h; rcases h with rfl | rfl | rfl | rfl; (· exact hml); (· exact hMI.1); (· exact hMI.2); (· exact hMW.2)); (· exact TBy hMW w h))) rfl rfl rfl ⟨rfl, hy.1, hy.2, hn⟩ hfr) ⟨WdS.blind, hrec, fun U hU hWm => ⟨rfl, hpre U hU hWm⟩⟩ rfl (by simp) hl.1 (by simp [F0, cv]) (lv_room hsm) hd ⟨hcs.1, hcs.2⟩) hS (fun q _ h => h) (fun q h => h) (fun r1 u1 t H1 locs1 ht hvm hp hB hz hkp hS1 => ?_)
  obtain ⟨rfl, hr, hM1, hSH1⟩ := hp
  rw [ht] at hB
  exact kk hrL (rcons (show rg n (vI r) from hr) (rt hr2)) hM1 hSH1 hW H1 locs1 ls hB hS1 hl
theorem j_cS (hX : Ctx X cc own d) (hV : SV X t v) (hMW : MW y ccy maxL ret) (hMS : MS y) (hml : Cond.methodLink own ix y ∈ TB) (hy : y.cls ≠ "java/lang/invoke/MethodHandle" ∧ y.cls ≠ "java/lang/invoke/VarHandle") (hdc : dc + 1 ≤ d) (hmx : maxL ≤ 41) (hcs : k2 ≤ X.2.2.2.1.cells ∧ k3 ≤ X.2.2.2.1.slots) (hd : decode cc pc = .ok (.invokestatic ix, 3)) (hC : CnS (gX X) B n t v y ccy maxL ret dc (as) M (QcI (gX X) B n r M')) (hn : (parseMethodDescriptor y.desc).map (fun d => d.parameters.length) = some as.length) (hs : stk' = as.reverse ++ st) (hst : (st.map ct).sum ≤ 8) (kk : JW X B n k2 k3 (pc + 3) L (vI r :: st) M' Q) : JW X B n k2 k3 pc L stk' M Q := by
  subst hs
  obtain ⟨p, l, e, R, s, m, args, below, meth, c, A, D, cA, f, nL⟩ := X
  obtain ⟨hx, hb, hmL, hown, hts, hK, hA, hSF, hdf, hdl⟩ := hX
  have hV : vk_S 1 [6] [[99, 115, 108, 112, 100, 119]] (fun _ => t) (fun _ => v) A s s.heap := hV
  intro hrL hrS hM hSH hW H locs ls hP hS hl
  have hr1 : ∀ v ∈ as, rg n v := fun v hv => hrS v (List.mem_append_left _ (List.mem_reverse.mpr hv))
  have hr2 : ∀ v ∈ st, rg n v := fun v hv => hrS v (List.mem_append_right _ hv)
  have hMet := hC ⟨hr1, hM, hSH, hW⟩
  have hpre : ∀ U : State, U.heap = H → s.WarmedH U.vm → WdS (gX (p, l, e, R, s, m, args, below, meth, c, A, D, cA, f, nL)) B n t v M U := fun U hU hWm => ⟨⟨by rw [hU]; exact hP, va_K.moved hWm.alike hK, SF.go hSF hS hWm hU, fun q hq => hA q (Nat.le_trans hS.1 (by rw [← hU]; exact hq))⟩, vk_S.moved hWm.alike (hV.kept (fun q g1 g2 => by rw [hU]; exact hS.2.1 q g1 g2))⟩
  have hsm : ((st.map (cv B)).map fun v => v.category).sum ≤ 8 := by
    have e : (st.map (cv B)).map (fun v => v.category) = st.map ct := by rw [List.map_map]; exact List.map_congr_left (fun v _ => cv_ct B v)
    rw [e]; exact hst
  have hfr : (rmD dc).frames + 1 ≤ R.frames ∧ 8 + (maxL + 11) + (rmD dc).locals ≤ R.locals := ⟨Nat.le_trans hdc hdf, by show 8 + (maxL + 11) + 60 * dc ≤ R.locals; omega⟩
  refine va_calli (A0 := A) (A1 := A) (va_runS (As := as.map (cv B)) (rest := st.map (cv B)) (n := as.length) ⟨hx, hb, hmL, hown, hts⟩ hMet ⟨callB_of as.length hts (TB_in (TBy hMW)) rfl rfl rfl (hts _ hMW.2) (hts _ hml) ⟨hy.1, hy.2, hn⟩ hfr, hts _ hMS⟩ ⟨WdS.blind, fun U hU hWm => ⟨rfl, hpre U hU hWm⟩⟩ rfl (by simp) hl.1 (by simp [F0]) (lv_room hsm) hd ⟨hcs.1, hcs.2⟩) hS (fun q _ h => h) (fun q h => h) (fun r1 u1 t H1 locs1 ht hvm hp hB hz hkp hS1 => ?_)
  obtain ⟨rfl, hr, hM1, hSH1⟩ := hp
  rw [ht] at hB
  exact kk hrL (rcons (show rg n (vI r) from hr) hr2) hM1 hSH1 hW H1 locs1 ls hB hS1 hl
theorem j_aloadT (hX : Ctx X cc own d) {q : Fin 4} {i a : Nat} (k : Nat) (hd : decode cc pc = .ok (.aload_n q, 1)) (hi : (q : Nat) = i) (hk : L[k]? = some (i, vX (.ref a))) (kk : JW X B n k2 k3 (pc + 1) L (vX (.ref a) :: st) M Q) : JW X B n k2 k3 pc L (st) M Q := by
  obtain ⟨p, l, e, R, s, m, args, below, meth, c, A, D, cA, f, nL⟩ := X
  obtain ⟨hx, hb, hml, hown, hts, hK, hA, hSF, hdf, hdl⟩ := hX
  intro hrL hrS hM hSH hW H locs ls hP hS hl
  exact lv_aload_n hx hb hd hi (lv_at hl k (lm_get hk)) (kk hrL (rcons (hrL _ (List.mem_of_getElem? hk)) hrS) hM hSH hW H locs ls hP hS hl)
theorem j_getV (hX : Ctx X cc own d) (hV : SV X t v) (hw : Cond.fieldLink own ix "java/lang/String" "value" "[B" ∈ TB) (hd : decode cc pc = .ok (.getfield ix, 3)) (kk : JW X B n k2 k3 (pc + 3) L (vX (.ref v) :: st) M Q) : JW X B n k2 k3 pc L (vX (.ref t) :: st) M Q := by
  obtain ⟨p, l, e, R, s, m, args, below, meth, c, A, D, cA, f, nL⟩ := X
  obtain ⟨hx, hb, hml, hown, hts, hK, hA, hSF, hdf, hdl⟩ := hX
  have hV : vk_S 1 [6] [[99, 115, 108, 112, 100, 119]] (fun _ => t) (fun _ => v) A s s.heap := hV
  intro hrL hrS hM hSH hW H locs ls hP hS hl
  exact vk_getf hx hb (hV.1 0 (by decide)).2.2.1 hS hown (hts _ hw) (fun x h => h) hd (kk hrL (rcons (show rg n (vX (.ref v)) from trivial) (rt hrS)) hM hSH hW H locs ls hP hS hl)
theorem j_getC (hX : Ctx X cc own d) (hV : SV X t v) (hw : Cond.fieldLink own ix "java/lang/String" "coder" "B" ∈ TB) (hd : decode cc pc = .ok (.getfield ix, 3)) (kk : JW X B n k2 k3 (pc + 3) L (vI 0 :: st) M Q) : JW X B n k2 k3 pc L (vX (.ref t) :: st) M Q := by
  obtain ⟨p, l, e, R, s, m, args, below, meth, c, A, D, cA, f, nL⟩ := X
  obtain ⟨hx, hb, hml, hown, hts, hK, hA, hSF, hdf, hdl⟩ := hX
  have hV : vk_S 1 [6] [[99, 115, 108, 112, 100, 119]] (fun _ => t) (fun _ => v) A s s.heap := hV
  intro hrL hrS hM hSH hW H locs ls hP hS hl
  have E0 := kk hrL (rcons (show rg n (vI 0) from rc rfl) (rt hrS)) hM hSH hW H locs ls hP hS hl
  have e2 : cv B (vI 0) = .int 0 := rfl
  rw [List.map_cons, e2] at E0
  exact vk_getf hx hb (hV.1 0 (by decide)).2.1 hS hown (hts _ hw) (fun x h => h) hd E0
theorem j_gsC (hX : Ctx X cc own d) (hw : Cond.fieldLink own ix "java/lang/String" "COMPACT_STRINGS" "Z" ∈ TB) (hd : decode cc pc = .ok (.getstatic ix, 3)) (kk : JW X B n k2 k3 (pc + 3) L (vI 1 :: st) M Q) : JW X B n k2 k3 pc L st M Q := by
  obtain ⟨p, l, e, R, s, m, args, below, meth, c, A, D, cA, f, nL⟩ := X
  obtain ⟨hx, hb, hml, hown, hts, hK, hA, hSF, hdf, hdl⟩ := hX
  intro hrL hrS hM hSH hW H locs ls hP hS hl
  have E0 := kk hrL (rcons (show rg n (vI 1) from rc rfl) hrS) hM hSH hW H locs ls hP hS hl
  have e2 : cv B (vI 1) = .int 1 := rfl
  rw [List.map_cons, e2] at E0
  exact va_gets hx hb hSF.2.2.1.1 hS hown (hts _ hw) (fun x h => h) hd E0
theorem j_lenV (hX : Ctx X cc own d) (hV : SV X t v) (hd : decode cc pc = .ok (.arraylength, 1)) (kk : JW X B n k2 k3 (pc + 1) L (vI 6 :: st) M Q) : JW X B n k2 k3 pc L (vX (.ref v) :: st) M Q := by
  obtain ⟨p, l, e, R, s, m, args, below, meth, c, A, D, cA, f, nL⟩ := X
  obtain ⟨hx, hb, hml, hown, hts, hK, hA, hSF, hdf, hdl⟩ := hX
  have hV : vk_S 1 [6] [[99, 115, 108, 112, 100, 119]] (fun _ => t) (fun _ => v) A s s.heap := hV
  intro hrL hrS hM hSH hW H locs ls hP hS hl
  exact va_tlen hx hb (hV.1 0 (by decide)).2.2.2 hS (v := Int32.ofInt 6) (by decide +kernel) hd (kk hrL (rcons (show rg n (vI 6) from rc rfl) (rt hrS)) hM hSH hW H locs ls hP hS hl)
def bnN (k : Nat) : Int := ([99, 115, 108, 112, 100, 119] : List Int).getD k 0
theorem bnN_v : ∀ k, k < 6 → (([99, 115, 108, 112, 100, 119] : List Int32).getD k 0 = Int32.ofInt (bnN k)) ∧ 99 ≤ bnN k ∧ bnN k ≤ 119 := by decide +kernel
theorem j_baldV (hX : Ctx X cc own d) (hV : SV X t v) {k : Nat} (hk : k < 6) (hd : decode cc pc = .ok (.baload, 1)) (kk : JW X B n k2 k3 (pc + 1) L (vI (bnN k) :: st) M Q) : JW X B n k2 k3 pc L (vI (k : Int) :: vX (.ref v) :: st) M Q := by
  obtain ⟨p, l, e, R, s, m, args, below, meth, c, A, D, cA, f, nL⟩ := X
  obtain ⟨hx, hb, hml, hown, hts, hK, hA, hSF, hdf, hdl⟩ := hX
  have hV : vk_S 1 [6] [[99, 115, 108, 112, 100, 119]] (fun _ => t) (fun _ => v) A s s.heap := hV
  intro hrL hrS hM hSH hW H locs ls hP hS hl
  have hb3 := bnN_v k hk
  have en : (Int32.ofInt (k : Int)).toNatClampNeg = k := q_nat (by omega) (rh hrS)
  have hr : rg n (vI (bnN k)) := by
    show r32 (bnN k)
    unfold r32
    omega
  exact va_tb hx hb (hV.1 0 (by decide)).2.2.2 hS (q_in (N := 6) (rh hrS) (by omega) (by omega)) (v := .int (Int32.ofInt (bnN k))) (by rw [en]; exact congrArg Value.int hb3.1) hd (kk hrL (rcons hr (rt (rt hrS))) hM hSH hW H locs ls hP hS hl)
theorem j_bret (hX : Ctx X cc own d) (hr : CR X (some .byte)) (hd : decode cc pc = .ok (.ireturn, 1)) : JW X B n 0 0 pc L [vI 0] M (QM X (QcI (gX X) B n 0 M)) := by
  obtain ⟨p, l, e, R, s, m, args, below, meth, c, A, D, cA, f, nL⟩ := X
  obtain ⟨hx, hb, hml, hown, hts, hK, hA, hSF, hdf, hdl⟩ := hX
  intro hrL hrS hM hSH hW H locs ls hP hS hl
  exact W.zret hx hb hr.1 (by decide) (fun t ht hWm => ⟨⟨Int32.ofInt 0, (), rfl, ⟨rfl, rh hrS, hM, hSH⟩, show va_P D cl (wN n cA B M) t.heap from by rw [ht]; exact hP⟩, hS.F ht⟩) hS.2.2 hd (hlocks := hr.2)
end JV
theorem npVJ1_canEncode_9a6ad : (parseMethodDescriptor yJ1_canEncode_9a6ad.desc).map (fun d => d.parameters.length) = some 1 := by decide +kernel
theorem npVJ1_indexOfChar_4cfef : (parseMethodDescriptor yJ1_indexOfChar_4cfef.desc).map (fun d => d.parameters.length) = some 4 := by decide +kernel
theorem npVJ1_indexOf_4cfef : (parseMethodDescriptor yJ1_indexOf_4cfef.desc).map (fun d => d.parameters.length) = some 4 := by decide +kernel
theorem npVJ0_indexOf_7cf53 : (parseMethodDescriptor yJ0_indexOf_7cf53.desc).map (fun d => d.parameters.length) = some 2 := by decide +kernel
theorem npVJ0_indexOf_0f7a4 : (parseMethodDescriptor yJ0_indexOf_0f7a4.desc).map (fun d => d.parameters.length) = some 1 := by decide +kernel
theorem npVJ0_coder_7d493 : (parseMethodDescriptor yJ0_coder_7d493.desc).map (fun d => d.parameters.length) = some 0 := by decide +kernel
theorem npVJ0_isLatin1_aae02 : (parseMethodDescriptor yJ0_isLatin1_aae02.desc).map (fun d => d.parameters.length) = some 0 := by decide +kernel
theorem npVJ0_length_8abf5 : (parseMethodDescriptor yJ0_length_8abf5.desc).map (fun d => d.parameters.length) = some 0 := by decide +kernel
theorem s_cod {g : G0} {B : Nat → Nat} {n t v : Nat} {M : Mem} : CnS g B n t v yJ0_coder_7d493 cJ0_coder_7d493 1 (some .byte) 0 [vX (.ref t)] M (QcI g B n 0 M) := by
  refine CnS.of (by decide +kernel) (Nat.le_of_ble_eq_true rfl) (fun X hg hnl hX hR hV => ?_)
  subst hg
  have hX : Ctx X cJ0_coder_7d493 "java/lang/String" 0 := hX
  show JW X B n 0 0 0 [(0, vX (.ref t))] [] M (QM X (QcI (gX X) B n 0 M))
  refine j_gsC hX wd176 dJ0_coder_7d493_0 ?_
  refine j_if_eq hX (tgt := 13) dJ0_coder_7d493_3 (by decide) (fun hc => absurd hc (by decide)) (fun _ => ?_)
  refine j_aloadT hX 0 dJ0_coder_7d493_6 rfl rfl ?_
  refine j_getC hX hV wd1758 dJ0_coder_7d493_7 ?_
  refine j_goto hX (tgt := 14) dJ0_coder_7d493_10 (by decide) ?_
  exact j_bret hX hR dJ0_coder_7d493_14
theorem s_lat {g : G0} {B : Nat → Nat} {n t v : Nat} {M : Mem} : CnS g B n t v yJ0_isLatin1_aae02 cJ0_isLatin1_aae02 1 (some .boolean) 0 [vX (.ref t)] M (QcI g B n 1 M) := by
  refine CnS.of (by decide +kernel) (Nat.le_of_ble_eq_true rfl) (fun X hg hnl hX hR hV => ?_)
  subst hg
  have hX : Ctx X cJ0_isLatin1_aae02 "java/lang/String" 0 := hX
  show JW X B n 0 0 0 [(0, vX (.ref t))] [] M (QM X (QcI (gX X) B n 1 M))
  refine j_gsC hX wd176 dJ0_isLatin1_aae02_0 ?_
  refine j_if_eq hX (tgt := 17) dJ0_isLatin1_aae02_3 (by decide) (fun hc => absurd hc (by decide)) (fun _ => ?_)
  refine j_aloadT hX 0 dJ0_isLatin1_aae02_6 rfl rfl ?_
  refine j_getC hX hV wd1758 dJ0_isLatin1_aae02_7 ?_
  refine j_if_ne hX (tgt := 17) dJ0_isLatin1_aae02_10 (by decide) (fun hc => absurd rfl hc) (fun _ => ?_)
  refine j_iconst hX dJ0_isLatin1_aae02_13 (rc rfl) ?_
  refine j_goto hX (tgt := 18) dJ0_isLatin1_aae02_14 (by decide) ?_
  exact j_zret hX hR (Or.inr rfl) dJ0_isLatin1_aae02_18
theorem hyJ0 {y : MethodName} (h : y.cls = "java/lang/String" ∨ y.cls = "java/lang/StringLatin1") : y.cls ≠ "java/lang/invoke/MethodHandle" ∧ y.cls ≠ "java/lang/invoke/VarHandle" := by
  rcases h with h | h <;> rw [h] <;> decide +kernel
theorem s_len {g : G0} {B : Nat → Nat} {n t v : Nat} {M : Mem} : CnS g B n t v yJ0_length_8abf5 cJ0_length_8abf5 1 (some .int) 1 [vX (.ref t)] M (QcI g B n 6 M) := by
  refine CnS.of (by decide +kernel) (Nat.le_of_ble_eq_true rfl) (fun X hg hnl hX hR hV => ?_)
  subst hg
  have hX : Ctx X cJ0_length_8abf5 "java/lang/String" 1 := hX
  show JW X B n 0 0 0 [(0, vX (.ref t))] [] M (QM X (QcI (gX X) B n 6 M))
  have e : o_shr 6 0 = 6 := by decide +kernel
  refine j_aloadT hX 0 dJ0_length_8abf5_0 rfl rfl ?_
  refine j_getV hX hV wd1757 dJ0_length_8abf5_1 ?_
  refine j_lenV hX hV dJ0_length_8abf5_4 ?_
  refine j_aloadT hX 0 dJ0_length_8abf5_5 rfl rfl ?_
  refine j_cV hX hV mwJ0_coder_7d493 miJ0_coder_7d493 wd172 rfl (hyJ0 (Or.inl rfl)) (Nat.le_refl _) (by decide) ⟨Nat.zero_le _, Nat.zero_le _⟩ dJ0_length_8abf5_6 (as := []) s_cod npVJ0_coder_7d493 rfl (Nat.le_of_ble_eq_true rfl) ?_
  refine j_ishr hX dJ0_length_8abf5_9 ?_
  rw [e]
  exact j_iret hX hR dJ0_length_8abf5_10
theorem s_can {g : G0} {B : Nat → Nat} {n : Nat} {M : Mem} (z : Int) : Cn g B n yJ1_canEncode_9a6ad cJ1_canEncode_9a6ad 1 (some .boolean) 0 [vI z] M (QcI g B n (if 0 ≤ z ∧ z ≤ 255 then 1 else 0) M) := by
  refine Cn.of (by decide +kernel) (Nat.le_of_ble_eq_true rfl) (fun X hg hnl hX hR => ?_)
  subst hg
  have hX : Ctx X cJ1_canEncode_9a6ad "java/lang/StringLatin1" 0 := hX
  show JW X B n 0 0 0 [(0, vI z)] [] M (QM X (QcI (gX X) B n (if 0 ≤ z ∧ z ≤ 255 then 1 else 0) M))
  refine j_iload_n hX 0 dJ1_canEncode_9a6ad_0 rfl rfl ?_
  refine j_if_lt hX (tgt := 15) dJ1_canEncode_9a6ad_1 (by decide) (fun hc => ?_) (fun hc => ?_)
  · rw [if_neg (show ¬ (0 ≤ z ∧ z ≤ 255) by omega)]
    refine j_iconst hX dJ1_canEncode_9a6ad_15 (rc rfl) ?_
    exact j_zret hX hR (Or.inl rfl) dJ1_canEncode_9a6ad_16
  · refine j_iload_n hX 0 dJ1_canEncode_9a6ad_4 rfl rfl ?_
    refine j_sipush hX dJ1_canEncode_9a6ad_5 (rc rfl) (by decide) ?_
    refine j_icmp_gt hX (tgt := 15) dJ1_canEncode_9a6ad_8 (by decide) (fun hc2 => ?_) (fun hc2 => ?_)
    · rw [if_neg (show ¬ (0 ≤ z ∧ z ≤ 255) by omega)]
      refine j_iconst hX dJ1_canEncode_9a6ad_15 (rc rfl) ?_
      exact j_zret hX hR (Or.inl rfl) dJ1_canEncode_9a6ad_16
    · rw [if_pos (show 0 ≤ z ∧ z ≤ 255 by omega)]
      refine j_iconst hX dJ1_canEncode_9a6ad_11 (rc rfl) ?_
      refine j_goto hX (tgt := 16) dJ1_canEncode_9a6ad_12 (by decide) ?_
      exact j_zret hX hR (Or.inr rfl) dJ1_canEncode_9a6ad_16
theorem nm_6 {z : Int} (hz : 0 ≤ z ∧ z ≤ 255) (h : ∀ j, j < 6 → ¬ bnN j = w8 z) : nmIx z = -1 := by
  have h0 : ¬ (99 : Int) = w8 z := h 0 (by decide)
  have h1 : ¬ (115 : Int) = w8 z := h 1 (by decide)
  have h2 : ¬ (108 : Int) = w8 z := h 2 (by decide)
  have h3 : ¬ (112 : Int) = w8 z := h 3 (by decide)
  have h4 : ¬ (100 : Int) = w8 z := h 4 (by decide)
  have h5 : ¬ (119 : Int) = w8 z := h 5 (by decide)
  unfold w8 at h0 h1 h2 h3 h4 h5
  unfold nmIx
  rw [if_neg (by omega), if_neg (by omega), if_neg (by omega), if_neg (by omega), if_neg (by omega), if_neg (by omega)]
theorem nm_k : ∀ k, k < 6 → nmIx (bnN k) = (k : Int) := by decide +kernel
theorem l_ixc {X : K0} {B : Nat → Nat} {n t v : Nat} {M : Mem} {z : Int} (hz : 0 ≤ z ∧ z ≤ 255) (hX : Ctx X cJ1_indexOfChar_4cfef "java/lang/StringLatin1" 0) (hnl : X.2.2.2.2.2.2.2.2.2.2.2.2.2.2 = 6) (hR : CR X (some .int)) (hV : SV X t v) : ∀ (q k : Nat), k + q = 6 → (∀ j, j < k → ¬ bnN j = w8 z) → JW X B n 0 0 7 [(5, vI (k : Int)), (4, vI (w8 z)), (0, vX (.ref v)), (1, vI z), (2, vI 0), (3, vI 6)] [] M (QM X (QcI (gX X) B n (nmIx z) M)) := by
  intro q
  induction q with
  | zero =>
    intro k hk h
    have hk : k = 6 := hk
    subst hk
    refine j_iload hX 0 dJ1_indexOfChar_4cfef_7 rfl ?_
    refine j_iload_n hX 5 dJ1_indexOfChar_4cfef_9 rfl rfl ?_
    refine j_icmp_ge hX (tgt := 31) dJ1_indexOfChar_4cfef_10 (by decide) (fun hc => ?_) (fun hc => absurd (by decide) hc)
    rw [nm_6 hz h]
    refine j_iconst hX dJ1_indexOfChar_4cfef_31 (rc rfl) ?_
    exact j_iret hX hR dJ1_indexOfChar_4cfef_32
  | succ q ih =>
    intro k hk h
    have hk6 : k < 6 := by omega
    refine j_iload hX 0 dJ1_indexOfChar_4cfef_7 rfl ?_
    refine j_iload_n hX 5 dJ1_indexOfChar_4cfef_9 rfl rfl ?_
    refine j_icmp_ge hX (tgt := 31) dJ1_indexOfChar_4cfef_10 (by decide) (fun hc => absurd hc (by omega)) (fun hc => ?_)
    refine j_aloadT hX 2 dJ1_indexOfChar_4cfef_13 rfl rfl ?_
    refine j_iload hX 0 dJ1_indexOfChar_4cfef_14 rfl ?_
    refine j_baldV hX hV hk6 dJ1_indexOfChar_4cfef_16 ?_
    refine j_iload hX 1 dJ1_indexOfChar_4cfef_17 rfl ?_
    refine j_icmp_ne hX (tgt := 25) dJ1_indexOfChar_4cfef_19 (by decide) (fun hc => ?_) (fun hc => ?_)
    · refine j_iinc (L' := [(5, vI ((k + 1 : Nat) : Int)), (4, vI (w8 z)), (0, vX (.ref v)), (1, vI z), (2, vI 0), (3, vI 6)]) hX 0 dJ1_indexOfChar_4cfef_25 hnl (by decide) rfl ?_ ?_
      · have e : w32 ((k : Int) + 1) = ((k + 1 : Nat) : Int) := by
          rw [w32_id (by unfold r32; omega)]
          omega
        rw [e]
        rfl
      · refine j_goto hX (tgt := 7) dJ1_indexOfChar_4cfef_28 (by decide) ?_
        exact ih (k + 1) (by omega) (fun j hj => by
          by_cases e : j = k
          · rw [e]
            exact hc
          · exact h j (by omega))
    · have hb := bnN_v k hk6
      have e : z = bnN k := by
        rw [hc]
        rw [hc] at hb
        unfold w8 at hb ⊢
        omega
      rw [show nmIx z = (k : Int) from by rw [e]; exact nm_k k hk6]
      refine j_iload hX 0 dJ1_indexOfChar_4cfef_22 rfl ?_
      exact j_iret hX hR dJ1_indexOfChar_4cfef_24
theorem s_ixc {g : G0} {B : Nat → Nat} {n t v : Nat} {M : Mem} {z : Int} (hz : 0 ≤ z ∧ z ≤ 255) : CnS g B n t v yJ1_indexOfChar_4cfef cJ1_indexOfChar_4cfef 6 (some .int) 0 [vX (.ref v), vI z, vI 0, vI 6] M (QcI g B n (nmIx z) M) := by
  refine CnS.of (by decide +kernel) (Nat.le_of_ble_eq_true rfl) (fun X hg hnl hX hR hV => ?_)
  subst hg
  have hX : Ctx X cJ1_indexOfChar_4cfef "java/lang/StringLatin1" 0 := hX
  show JW X B n 0 0 0 [(0, vX (.ref v)), (1, vI z), (2, vI 0), (3, vI 6)] [] M (QM X (QcI (gX X) B n (nmIx z) M))
  refine j_iload_n hX 1 dJ1_indexOfChar_4cfef_0 rfl rfl ?_
  refine j_i2b hX dJ1_indexOfChar_4cfef_1 ?_
  refine j_istore (L' := [(4, vI (w8 z)), (0, vX (.ref v)), (1, vI z), (2, vI 0), (3, vI 6)]) hX dJ1_indexOfChar_4cfef_2 hnl (by decide) rfl ?_
  refine j_iload_n hX 3 dJ1_indexOfChar_4cfef_4 rfl rfl ?_
  refine j_istore (L' := [(5, vI ((0 : Nat) : Int)), (4, vI (w8 z)), (0, vX (.ref v)), (1, vI z), (2, vI 0), (3, vI 6)]) hX dJ1_indexOfChar_4cfef_5 hnl (by decide) rfl ?_
  exact l_ixc hz hX hnl hR hV 6 0 rfl (fun j hj => absurd hj (Nat.not_lt_zero j))
theorem s_ix1 {g : G0} {B : Nat → Nat} {n t v : Nat} {M : Mem} (z : Int) : CnS g B n t v yJ1_indexOf_4cfef cJ1_indexOf_4cfef 4 (some .int) 1 [vX (.ref v), vI z, vI 0, vI 6] M (QcI g B n (nmIx z) M) := by
  refine CnS.of (by decide +kernel) (Nat.le_of_ble_eq_true rfl) (fun X hg hnl hX hR hV => ?_)
  subst hg
  have hX : Ctx X cJ1_indexOf_4cfef "java/lang/StringLatin1" 1 := hX
  show JW X B n 0 0 0 [(0, vX (.ref v)), (1, vI z), (2, vI 0), (3, vI 6)] [] M (QM X (QcI (gX X) B n (nmIx z) M))
  refine j_iload_n hX 1 dJ1_indexOf_4cfef_0 rfl rfl ?_
  refine j_callSI hX mwJ1_canEncode_9a6ad msJ1_canEncode_9a6ad wd596 (hyJ0 (Or.inr rfl)) (Nat.le_refl _) (by decide) ⟨Nat.zero_le _, Nat.zero_le _⟩ dJ1_indexOf_4cfef_1 (as := [vI z]) (s_can z) npVJ1_canEncode_9a6ad rfl (Nat.le_of_ble_eq_true rfl) ?_
  by_cases c : 0 ≤ z ∧ z ≤ 255
  · rw [if_pos c]
    refine j_if_ne hX (tgt := 9) dJ1_indexOf_4cfef_4 (by decide) (fun _ => ?_) (fun hc => absurd hc (by decide))
    refine j_iload_n hX 2 dJ1_indexOf_4cfef_9 rfl rfl ?_
    refine j_iconst hX dJ1_indexOf_4cfef_10 (rc rfl) ?_
    refine j_mmax hX wd599 (Nat.le_refl _) ⟨Nat.zero_le _, Nat.zero_le _⟩ dJ1_indexOf_4cfef_11 rfl ?_
    rw [show g_J9_max_7cf53 0 0 = 0 from by decide]
    refine j_istore_n (L' := [(2, vI 0), (0, vX (.ref v)), (1, vI z), (3, vI 6)]) hX dJ1_indexOf_4cfef_14 rfl hnl (by decide) rfl ?_
    refine j_iload_n hX 3 dJ1_indexOf_4cfef_15 rfl rfl ?_
    refine j_aloadT hX 1 dJ1_indexOf_4cfef_16 rfl rfl ?_
    refine j_lenV hX hV dJ1_indexOf_4cfef_17 ?_
    refine j_mmin hX wd602 (Nat.le_refl _) ⟨Nat.zero_le _, Nat.zero_le _⟩ dJ1_indexOf_4cfef_18 rfl ?_
    rw [show g_J9_min_7cf53 6 6 = 6 from by decide]
    refine j_istore_n (L' := [(3, vI 6), (2, vI 0), (0, vX (.ref v)), (1, vI z)]) hX dJ1_indexOf_4cfef_21 rfl hnl (by decide) rfl ?_
    refine j_iload_n hX 1 dJ1_indexOf_4cfef_22 rfl rfl ?_
    refine j_iload_n hX 0 dJ1_indexOf_4cfef_23 rfl rfl ?_
    refine j_icmp_lt hX (tgt := 29) dJ1_indexOf_4cfef_24 (by decide) (fun _ => ?_) (fun hc => absurd (by decide) hc)
    refine j_aloadT hX 2 dJ1_indexOf_4cfef_29 rfl rfl ?_
    refine j_iload_n hX 3 dJ1_indexOf_4cfef_30 rfl rfl ?_
    refine j_iload_n hX 1 dJ1_indexOf_4cfef_31 rfl rfl ?_
    refine j_iload_n hX 0 dJ1_indexOf_4cfef_32 rfl rfl ?_
    refine j_cS hX hV mwJ1_indexOfChar_4cfef msJ1_indexOfChar_4cfef wd605 (hyJ0 (Or.inr rfl)) (Nat.le_refl _) (by decide) ⟨Nat.zero_le _, Nat.zero_le _⟩ dJ1_indexOf_4cfef_33 (as := [vX (.ref v), vI z, vI 0, vI 6]) (s_ixc c) npVJ1_indexOfChar_4cfef rfl (Nat.le_of_ble_eq_true rfl) ?_
    exact j_iret hX hR dJ1_indexOf_4cfef_36
  · rw [if_neg c]
    refine j_if_ne hX (tgt := 9) dJ1_indexOf_4cfef_4 (by decide) (fun hc => absurd rfl hc) (fun _ => ?_)
    have e : nmIx z = -1 := by
      unfold nmIx
      rw [if_neg (by omega), if_neg (by omega), if_neg (by omega), if_neg (by omega), if_neg (by omega), if_neg (by omega)]
    rw [e]
    refine j_iconst hX dJ1_indexOf_4cfef_7 (rc rfl) ?_
    exact j_iret hX hR dJ1_indexOf_4cfef_8
theorem s_ix2 {g : G0} {B : Nat → Nat} {n t v : Nat} {M : Mem} (z : Int) : CnS g B n t v yJ0_indexOf_7cf53 cJ0_indexOf_7cf53 3 (some .int) 2 [vX (.ref t), vI z, vI 0] M (QcI g B n (nmIx z) M) := by
  refine CnS.of (by decide +kernel) (Nat.le_of_ble_eq_true rfl) (fun X hg hnl hX hR hV => ?_)
  subst hg
  have hX : Ctx X cJ0_indexOf_7cf53 "java/lang/String" 2 := hX
  show JW X B n 0 0 0 [(0, vX (.ref t)), (1, vI z), (2, vI 0)] [] M (QM X (QcI (gX X) B n (nmIx z) M))
  refine j_aloadT hX 0 dJ0_indexOf_7cf53_0 rfl rfl ?_
  refine j_cV hX hV mwJ0_isLatin1_aae02 miJ0_isLatin1_aae02 wd588 rfl (hyJ0 (Or.inl rfl)) (by decide) (by decide) ⟨Nat.zero_le _, Nat.zero_le _⟩ dJ0_indexOf_7cf53_1 (as := []) s_lat npVJ0_isLatin1_aae02 rfl (Nat.le_of_ble_eq_true rfl) ?_
  refine j_if_eq hX (tgt := 23) dJ0_indexOf_7cf53_4 (by decide) (fun hc => absurd hc (by decide)) (fun _ => ?_)
  refine j_aloadT hX 0 dJ0_indexOf_7cf53_7 rfl rfl ?_
  refine j_getV hX hV wd1757 dJ0_indexOf_7cf53_8 ?_
  refine j_iload_n hX 1 dJ0_indexOf_7cf53_11 rfl rfl ?_
  refine j_iload_n hX 2 dJ0_indexOf_7cf53_12 rfl rfl ?_
  refine j_aloadT hX 0 dJ0_indexOf_7cf53_13 rfl rfl ?_
  refine j_cV hX hV mwJ0_length_8abf5 miJ0_length_8abf5 wd592 rfl (hyJ0 (Or.inl rfl)) (Nat.le_refl _) (by decide) ⟨Nat.zero_le _, Nat.zero_le _⟩ dJ0_indexOf_7cf53_14 (as := []) s_len npVJ0_length_8abf5 rfl (Nat.le_of_ble_eq_true rfl) ?_
  refine j_cS hX hV mwJ1_indexOf_4cfef msJ1_indexOf_4cfef wd593 (hyJ0 (Or.inr rfl)) (Nat.le_refl _) (by decide) ⟨Nat.zero_le _, Nat.zero_le _⟩ dJ0_indexOf_7cf53_17 (as := [vX (.ref v), vI z, vI 0, vI 6]) (s_ix1 z) npVJ1_indexOf_4cfef rfl (Nat.le_of_ble_eq_true rfl) ?_
  refine j_goto hX (tgt := 36) dJ0_indexOf_7cf53_20 (by decide) ?_
  exact j_iret hX hR dJ0_indexOf_7cf53_36
theorem s_ix3 {g : G0} {B : Nat → Nat} {n t v : Nat} {M : Mem} (z : Int) : CnS g B n t v yJ0_indexOf_0f7a4 cJ0_indexOf_0f7a4 2 (some .int) 3 [vX (.ref t), vI z] M (QcI g B n (nmIx z) M) := by
  refine CnS.of (by decide +kernel) (Nat.le_of_ble_eq_true rfl) (fun X hg hnl hX hR hV => ?_)
  subst hg
  have hX : Ctx X cJ0_indexOf_0f7a4 "java/lang/String" 3 := hX
  show JW X B n 0 0 0 [(0, vX (.ref t)), (1, vI z)] [] M (QM X (QcI (gX X) B n (nmIx z) M))
  refine j_aloadT hX 0 dJ0_indexOf_0f7a4_0 rfl rfl ?_
  refine j_iload_n hX 1 dJ0_indexOf_0f7a4_1 rfl rfl ?_
  refine j_iconst hX dJ0_indexOf_0f7a4_2 (rc rfl) ?_
  refine j_cV hX hV mwJ0_indexOf_7cf53 miJ0_indexOf_7cf53 wd584 rfl (hyJ0 (Or.inl rfl)) (Nat.le_refl _) (by decide) ⟨Nat.zero_le _, Nat.zero_le _⟩ dJ0_indexOf_0f7a4_3 (as := [vI z, vI 0]) (s_ix2 z) npVJ0_indexOf_7cf53 rfl (Nat.le_of_ble_eq_true rfl) ?_
  exact j_iret hX hR dJ0_indexOf_0f7a4_6
theorem SS_V {X : K0} {t : Nat} (h : SS X t) : ∃ v, SV X t v := h
theorem j_ixS {X : K0} {cc : ByteArray} {own : String} {d : Nat} {B : Nat → Nat} {n k2 k3 pc : Nat} {L : List (Nat × AV)} {st : List AV} {M : Mem} {Q : State → Prop} (hX : Ctx X cc own d) {t : Nat} (hT : SS X t) {z : Int} {ix : Nat} (hml : Cond.methodLink own ix yJ0_indexOf_0f7a4 ∈ TB) (hd4 : 4 ≤ d) (hcs : k2 ≤ X.2.2.2.1.cells ∧ k3 ≤ X.2.2.2.1.slots) (hd : decode cc pc = .ok (.invokevirtual ix, 3)) (hst : Nat.ble (st.map ct).sum 8 = true) (kk : JW X B n k2 k3 (pc + 3) L (vI (nmIx z) :: st) M Q) : JW X B n k2 k3 pc L (vI z :: vX (.ref t) :: st) M Q := by
  obtain ⟨v, hV⟩ := SS_V hT
  exact j_cV hX hV mwJ0_indexOf_0f7a4 miJ0_indexOf_0f7a4 hml rfl (hyJ0 (Or.inl rfl)) hd4 (by decide) hcs hd (as := [vI z]) (s_ix3 z) npVJ0_indexOf_0f7a4 rfl (Nat.le_of_ble_eq_true hst) kk
theorem j_lenS {X : K0} {cc : ByteArray} {own : String} {d : Nat} {B : Nat → Nat} {n k2 k3 pc : Nat} {L : List (Nat × AV)} {st : List AV} {M : Mem} {Q : State → Prop} (hX : Ctx X cc own d) {t : Nat} (hT : SS X t) {ix : Nat} (hml : Cond.methodLink own ix yJ0_length_8abf5 ∈ TB) (hd2 : 2 ≤ d) (hcs : k2 ≤ X.2.2.2.1.cells ∧ k3 ≤ X.2.2.2.1.slots) (hd : decode cc pc = .ok (.invokevirtual ix, 3)) (hst : Nat.ble (st.map ct).sum 8 = true) (kk : JW X B n k2 k3 (pc + 3) L (vI 6 :: st) M Q) : JW X B n k2 k3 pc L (vX (.ref t) :: st) M Q := by
  obtain ⟨v, hV⟩ := SS_V hT
  exact j_cV hX hV mwJ0_length_8abf5 miJ0_length_8abf5 hml rfl (hyJ0 (Or.inl rfl)) hd2 (by decide) hcs hd (as := []) s_len npVJ0_length_8abf5 rfl (Nat.le_of_ble_eq_true hst) kk
