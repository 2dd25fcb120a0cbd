/-! ROWS of what is not walked: a copy of a row; the place of a letter in the text of names -/
def SS (X : K0) (t : Nat) : Prop := match X with
  | (p, l, e, R, s, m, args, below, meth, c, A, D, cA, f, nL) => ∃ v, vk_S 1 [6] [[99, 115, 108, 112, 100, 119]] (fun _ => t) (fun _ => v) A s s.heap
section JS
variable {X : K0} {cc : ByteArray} {own : String} {d : Nat} {B : Nat → Nat} {n k2 k3 pc : Nat} {L : List (Nat × AV)} {st : List AV} {M : Mem} {Q : State → Prop} {E : Mem → Mem} {P : Nat → Prop} {S S' : Mem}
theorem j_ldcS (hX : Ctx X cc own d) (ho : own = "TelegramFeelings$Law") (hd : decode cc pc = .ok (.ldc 21, 2)) (kk : ∀ t, SS X t → JW X B n k2 k3 (pc + 2) L (vX (.ref t) :: st) M Q) : JW X B n k2 k3 pc L st M Q := by
  obtain ⟨p, l, e, R, s, m, args, below, meth, c, A, D, cA, f, nL⟩ := X
  obtain ⟨hx, hb, hml, hown, hts, hK, hA, hSF, hdf, hdl⟩ := hX
  intro hrL hrS hM hSH hW H locs ls hP hS hl
  subst ho
  obtain ⟨a, v, hR, hV⟩ := hSF.2.2.2
  exact va_ldcS hx hb hown hR hd (kk a ⟨v, hV⟩ hrL (rcons trivial hrS) hM hSH hW H locs ls hP hS hl)
theorem cpk_s {a N b N' : Nat} {i j z : Int} (h : cpk S a N i b N' j z = some S') : (0 ≤ i ∧ 0 ≤ j ∧ 0 ≤ z ∧ i + z ≤ N ∧ j + z ≤ N') ∧ S' = cpI S a i.toNat b j.toNat z.toNat := by
  unfold cpk at h
  split at h
  · next q => exact ⟨q, (Option.some.inj h).symm⟩
  · cases h
theorem j_copyI (hX : Ctx X cc own d) (hE : Lens E P) {a N b N' : Nat} {i j z : Int} (ha : tyc a = (1, N)) (hb' : tyc b = (1, N')) (hpa : P a) (hpb : P b) (hd1 : 1 ≤ d) (hv : cpk S a N i b N' j z = some S') {ix : Nat} (hml : Cond.methodLink own ix arraycopyName ∈ TB) (hd : decode cc pc = .ok (.invokestatic ix, 3)) (hst : Nat.ble (st.map ct).sum 8 = true) (kk : JW X B n k2 k3 (pc + 3) L st (E S') Q) : JW X B n k2 k3 pc L (vI z :: vI j :: vR b :: vI i :: vR a :: st) (E S) Q := by
  obtain ⟨p, l, e, R, s, m, args, below, meth, c, A, D, cA, f, nL⟩ := X
  obtain ⟨hx, hb, hmL, hown, hts, hK, hA, hSF, hdf, hdl⟩ := hX
  intro hrL hrS hM hSH hW H locs ls hP hS hl
  obtain ⟨⟨h1, h2, h3, h4, h5⟩, rfl⟩ := cpk_s hv
  show W p l e R s m args below meth c H locs k2 k3 Q (F0 m pc ls (.int (Int32.ofInt z) :: .int (Int32.ofInt j) :: .ref (B b) :: .int (Int32.ofInt i) :: .ref (B a) :: st.map (cv B)))
  have rz : r32 z := rh hrS
  have rj : r32 j := rh (rt hrS)
  have hbn : b < n := rh (rt (rt hrS))
  have ri : r32 i := rh (rt (rt (rt hrS)))
  have han : a < n := rh (rt (rt (rt (rt hrS))))
  have ez := q_nat h3 rz
  have ej := q_nat h2 rj
  have ei := q_nat h1 ri
  have hsm : ((st.map (cv B)).map fun v => v.category).sum ≤ 8 := by
    have e : (st.map (cv B)).map (fun v => v.category) = st.map ct := by rw [List.map_map]; exact List.map_congr_left (fun v _ => cv_ct B v)
    rw [e]; exact Nat.le_of_ble_eq_true hst
  refine va_copyi hx hb (hmL.trans hl.1.symm) hown (hts _ hml) (hts _ wd512) (hts _ wd511) (hts _ wd117) hK hP (wN_D hW) hS a b 0 0 ((wN_get han).trans (by rw [ce_int ha (by decide) (by decide) (by decide)])) ((wN_get hbn).trans (by rw [ce_int hb' (by decide) (by decide) (by decide)])) rfl rfl rfl (mt (q_lt0 ri).mp (by omega)) (mt (q_lt0 rj).mp (by omega)) (mt (q_lt0 rz).mp (by omega)) (by rw [ei, ez]; omega) (by rw [ej, ez]; omega) (fun q _ => rfl) (by omega) (by
    have e : nativeFrameWords "java/lang/System" "arraycopy" 5 ≤ 40 := by decide +kernel
    omega) hd (fun H1 locs1 hP1 hD1 hS1 => ?_)
  rw [ei, ej, ez, wN_set (M' := cpI (E S) a i.toNat b j.toNat z.toNat) (by
    rw [ce_int hb' (by decide) (by decide) (by decide)]
    have e : (fun x => Int32.ofInt (gI (cpI (E S) a i.toNat b j.toNat z.toNat) b x)) = va_cpy (fun x => Int32.ofInt (gI (E S) a x)) (fun x => Int32.ofInt (gI (E S) b x)) i.toNat j.toNat z.toNat := by
      funext x
      unfold va_cpy
      show Int32.ofInt (if b = b ∧ j.toNat ≤ x ∧ x < j.toNat + z.toNat then gI (E S) a (i.toNat + (x - j.toNat)) else gI (E S) b x) = _
      by_cases q : j.toNat ≤ x ∧ x < j.toNat + z.toNat
      · rw [if_pos ⟨rfl, q⟩, if_pos q]
      · rw [if_neg (fun w => q w.2), if_neg q]
    rw [e]) (fun x hx => ce_cpI hx), hE.2.2.2.2 S a i.toNat b j.toNat z.toNat hpa hpb] at hP1
  exact kk hrL (rt (rt (rt (rt (rt hrS))))) (by rw [← hE.2.2.2.2 S a i.toNat b j.toNat z.toNat hpa hpb]; exact MR_cpI hM han (by rw [ha, hb'])) (fun q => by rw [← hE.2.2.2.2 S a i.toNat b j.toNat z.toNat hpa hpb]; exact hSH q) hW H1 locs1 ls hP1 hS1 hl
theorem j_copyLk (hX : Ctx X cc own d) (hE : Lens E P) {a N b N' : Nat} {i j z : Int} (ha : tyc a = (2, N)) (hb' : tyc b = (2, N')) (hpa : P a) (hpb : P b) (hd1 : 1 ≤ d) (hv : cpk S a N i b N' j z = some S') {ix : Nat} (hml : Cond.methodLink own ix arraycopyName ∈ TB) (hd : decode cc pc = .ok (.invokestatic ix, 3)) (hst : Nat.ble (st.map ct).sum 8 = true) (kk : JW X B n k2 k3 (pc + 3) L st (E S') Q) : JW X B n k2 k3 pc L (vI z :: vI j :: vR b :: vI i :: vR a :: st) (E S) Q := by
  obtain ⟨p, l, e, R, s, m, args, below, meth, c, A, D, cA, f, nL⟩ := X
  obtain ⟨hx, hb, hmL, hown, hts, hK, hA, hSF, hdf, hdl⟩ := hX
  intro hrL hrS hM hSH hW H locs ls hP hS hl
  obtain ⟨⟨h1, h2, h3, h4, h5⟩, rfl⟩ := cpk_s hv
  show W p l e R s m args below meth c H locs k2 k3 Q (F0 m pc ls (.int (Int32.ofInt z) :: .int (Int32.ofInt j) :: .ref (B b) :: .int (Int32.ofInt i) :: .ref (B a) :: st.map (cv B)))
  have rz : r32 z := rh hrS
  have rj : r32 j := rh (rt hrS)
  have hbn : b < n := rh (rt (rt hrS))
  have ri : r32 i := rh (rt (rt (rt hrS)))
  have han : a < n := rh (rt (rt (rt (rt hrS))))
  have ez := q_nat h3 rz
  have ej := q_nat h2 rj
  have ei := q_nat h1 ri
  have hsm : ((st.map (cv B)).map fun v => v.category).sum ≤ 8 := by
    have e : (st.map (cv B)).map (fun v => v.category) = st.map ct := by rw [List.map_map]; exact List.map_congr_left (fun v _ => cv_ct B v)
    rw [e]; exact Nat.le_of_ble_eq_true hst
  refine va_copyl hx hb (hmL.trans hl.1.symm) hown (hts _ hml) (hts _ wd512) (hts _ wd511) (hts _ wd117) hK hP (wN_D hW) hS a b 1 1 ((wN_get han).trans (by rw [ce_long ha])) ((wN_get hbn).trans (by rw [ce_long hb'])) rfl rfl rfl (mt (q_lt0 ri).mp (by omega)) (mt (q_lt0 rj).mp (by omega)) (mt (q_lt0 rz).mp (by omega)) (by rw [ei, ez]; omega) (by rw [ej, ez]; omega) (fun q _ => rfl) (by omega) (by
    have e : nativeFrameWords "java/lang/System" "arraycopy" 5 ≤ 40 := by decide +kernel
    omega) hd (fun H1 locs1 hP1 hD1 hS1 => ?_)
  rw [ei, ej, ez, wN_set (M' := cpI (E S) a i.toNat b j.toNat z.toNat) (by
    rw [ce_long hb']
    have e : (fun x => Int64.ofInt (gI (cpI (E S) a i.toNat b j.toNat z.toNat) b x)) = va_cpy (fun x => Int64.ofInt (gI (E S) a x)) (fun x => Int64.ofInt (gI (E S) b x)) i.toNat j.toNat z.toNat := by
      funext x
      unfold va_cpy
      show Int64.ofInt (if b = b ∧ j.toNat ≤ x ∧ x < j.toNat + z.toNat then gI (E S) a (i.toNat + (x - j.toNat)) else gI (E S) b x) = _
      by_cases q : j.toNat ≤ x ∧ x < j.toNat + z.toNat
      · rw [if_pos ⟨rfl, q⟩, if_pos q]
      · rw [if_neg (fun w => q w.2), if_neg q]
    rw [e]) (fun x hx => ce_cpI hx), hE.2.2.2.2 S a i.toNat b j.toNat z.toNat hpa hpb] at hP1
  exact kk hrL (rt (rt (rt (rt (rt hrS))))) (by rw [← hE.2.2.2.2 S a i.toNat b j.toNat z.toNat hpa hpb]; exact MR_cpI hM han (by rw [ha, hb'])) (fun q => by rw [← hE.2.2.2.2 S a i.toNat b j.toNat z.toNat hpa hpb]; exact hSH q) hW H1 locs1 ls hP1 hS1 hl
theorem j_copyL (hX : Ctx X cc own d) (hE : Lens E P) (hp : ∀ a, a < 56 → P a) {a b : Nat} {i j z : Int} (hd1 : 1 ≤ d) (hv : cpd S a i b j z = some S') {ix : Nat} (hml : Cond.methodLink own ix arraycopyName ∈ TB) (hd : decode cc pc = .ok (.invokestatic ix, 3)) (hst : Nat.ble (st.map ct).sum 8 = true) (kk : JW X B n k2 k3 (pc + 3) L st (E S') Q) : JW X B n k2 k3 pc L (vI z :: vI j :: vR b :: vI i :: vR a :: st) (E S) Q := by
  unfold cpd at hv
  split at hv
  · next q => exact j_copyLk hX hE (Prod.ext q.1 rfl) (Prod.ext q.2.1 rfl) (hp a q.2.2.1) (hp b q.2.2.2) hd1 hv hml hd hst kk
  · cases hv
theorem lk_none {df x : Int} : ∀ {ps : List (Int × Int)}, ps.all (fun q => !(q.1 == x)) = true → Op.lookupswitch.offset ps df x = df
  | [], _ => rfl
  | (a, o) :: r, h => by
    rw [List.all_cons, Bool.and_eq_true] at h
    have hn : ¬ a = x := fun z => by simp [z] at h
    rw [Op.lookupswitch.offset_cons]
    simp only [hn, if_false]
    exact lk_none h.2
end JS
