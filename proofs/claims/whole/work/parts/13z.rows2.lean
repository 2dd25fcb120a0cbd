/-! ROWS of Math's own -/
section JM
variable {X : K0} {cc : ByteArray} {own : String} {d : Nat} {B : Nat → Nat} {n k2 k3 pc : Nat} {L : List (Nat × AV)} {st : List AV} {M : Mem} {Q : State → Prop}
theorem q_ltl {a b : Int} (ha : r64 a) (hb : r64 b) : Int64.ofInt a < Int64.ofInt b ↔ a < b := by rw [show Int64.ofInt a < Int64.ofInt b ↔ (Int64.ofInt a).toInt < (Int64.ofInt b).toInt from by first | exact Int64.lt_iff_toInt_lt | simp, q_ld ha, q_ld hb]
theorem g_max_r {a b : Int} (ha : r32 a) (hb : r32 b) : r32 (g_J9_max_7cf53 a b) := by
  unfold g_J9_max_7cf53; split <;> assumption
theorem g_min_r {a b : Int} (ha : r32 a) (hb : r32 b) : r32 (g_J9_min_7cf53 a b) := by
  unfold g_J9_min_7cf53; split <;> assumption
theorem g_minl_r {a b : Int} (ha : r64 a) (hb : r64 b) : r64 (g_J9_min_f86c9 a b) := by
  unfold g_J9_min_f86c9; split <;> assumption
theorem j_mmax (hX : Ctx X cc own d) {ix : Nat} {a b : Int} (hml : Cond.methodLink own ix yJ9_max_7cf53 ∈ TB) (hd1 : 1 ≤ d) (hcs : k2 ≤ X.2.2.2.1.cells ∧ k3 ≤ X.2.2.2.1.slots) (hd : decode cc pc = .ok (.invokestatic ix, 3)) (hst : Nat.ble (st.map ct).sum 8 = true) (kk : JW X B n k2 k3 (pc + 3) L (vI (g_J9_max_7cf53 a b) :: st) M Q) : JW X B n k2 k3 pc L (vI b :: vI a :: st) M Q := by
  obtain ⟨p, l, e, R, s, m, args, below, meth, c, A, D, cA, f, nL⟩ := X
  obtain ⟨hx, hb, hmL, hown, hts, hK, hA, hSF, hdf, hdl⟩ := hX
  have hcs : k2 ≤ R.cells ∧ k3 ≤ R.slots := hcs
  intro hrL hrS hM hSH hW H locs ls hP hS hl
  have hsm : ((st.map (cv B)).map fun v => v.category).sum ≤ 8 := by
    have e : (st.map (cv B)).map (fun v => v.category) = st.map ct := by rw [List.map_map]; exact List.map_congr_left (fun v _ => cv_ct B v)
    rw [e]; exact Nat.le_of_ble_eq_true hst
  show W p l e R s m args below meth c H locs k2 k3 Q (F0 m pc ls (.int (Int32.ofInt b) :: .int (Int32.ofInt a) :: st.map (cv B)))
  refine va_mmax hx hb (hmL.trans hl.1.symm) hown (hts _ hml) (hts _ msJ9_max_7cf53) (hts _ mwJ9_max_7cf53.2) (hts _ mwJ9_max_7cf53.1) (by omega) (by omega) hcs.1 hcs.2 hd ?_
  have E0 := kk hrL (rcons (show rg n (vI (g_J9_max_7cf53 a b)) from g_max_r (rh (rt hrS)) (rh hrS)) (rt (rt hrS))) hM hSH hW H locs ls hP hS hl
  have e2 : cv B (vI (g_J9_max_7cf53 a b)) = .int (if Int32.ofInt a < Int32.ofInt b then Int32.ofInt b else Int32.ofInt a) := by
    show Value.int (Int32.ofInt _) = _
    unfold g_J9_max_7cf53
    congr 1
    have ra := rh (rt hrS)
    have rb := rh hrS
    unfold rg at ra rb
    simp only [q_lt ra rb, q_lt rb ra, q_le ra rb, q_le rb ra]
    (repeat' split) <;> first | rfl | (exfalso; omega) | (congr 1; omega)
  rw [List.map_cons, e2] at E0
  exact E0
theorem j_mmin (hX : Ctx X cc own d) {ix : Nat} {a b : Int} (hml : Cond.methodLink own ix yJ9_min_7cf53 ∈ TB) (hd1 : 1 ≤ d) (hcs : k2 ≤ X.2.2.2.1.cells ∧ k3 ≤ X.2.2.2.1.slots) (hd : decode cc pc = .ok (.invokestatic ix, 3)) (hst : Nat.ble (st.map ct).sum 8 = true) (kk : JW X B n k2 k3 (pc + 3) L (vI (g_J9_min_7cf53 a b) :: st) M Q) : JW X B n k2 k3 pc L (vI b :: vI a :: st) M Q := by
  obtain ⟨p, l, e, R, s, m, args, below, meth, c, A, D, cA, f, nL⟩ := X
  obtain ⟨hx, hb, hmL, hown, hts, hK, hA, hSF, hdf, hdl⟩ := hX
  have hcs : k2 ≤ R.cells ∧ k3 ≤ R.slots := hcs
  intro hrL hrS hM hSH hW H locs ls hP hS hl
  have hsm : ((st.map (cv B)).map fun v => v.category).sum ≤ 8 := by
    have e : (st.map (cv B)).map (fun v => v.category) = st.map ct := by rw [List.map_map]; exact List.map_congr_left (fun v _ => cv_ct B v)
    rw [e]; exact Nat.le_of_ble_eq_true hst
  show W p l e R s m args below meth c H locs k2 k3 Q (F0 m pc ls (.int (Int32.ofInt b) :: .int (Int32.ofInt a) :: st.map (cv B)))
  refine va_mmin hx hb (hmL.trans hl.1.symm) hown (hts _ hml) (hts _ msJ9_min_7cf53) (hts _ mwJ9_min_7cf53.2) (hts _ mwJ9_min_7cf53.1) (by omega) (by omega) hcs.1 hcs.2 hd ?_
  have E0 := kk hrL (rcons (show rg n (vI (g_J9_min_7cf53 a b)) from g_min_r (rh (rt hrS)) (rh hrS)) (rt (rt hrS))) hM hSH hW H locs ls hP hS hl
  have e2 : cv B (vI (g_J9_min_7cf53 a b)) = .int (if Int32.ofInt b < Int32.ofInt a then Int32.ofInt b else Int32.ofInt a) := by
    show Value.int (Int32.ofInt _) = _
    unfold g_J9_min_7cf53
    congr 1
    have ra := rh (rt hrS)
    have rb := rh hrS
    unfold rg at ra rb
    simp only [q_lt ra rb, q_lt rb ra, q_le ra rb, q_le rb ra]
    (repeat' split) <;> first | rfl | (exfalso; omega) | (congr 1; omega)
  rw [List.map_cons, e2] at E0
  exact E0
theorem j_mminl (hX : Ctx X cc own d) {ix : Nat} {a b : Int} (hml : Cond.methodLink own ix yJ9_min_f86c9 ∈ TB) (hd1 : 1 ≤ d) (hcs : k2 ≤ X.2.2.2.1.cells ∧ k3 ≤ X.2.2.2.1.slots) (hd : decode cc pc = .ok (.invokestatic ix, 3)) (hst : Nat.ble (st.map ct).sum 8 = true) (kk : JW X B n k2 k3 (pc + 3) L (vL (g_J9_min_f86c9 a b) :: st) M Q) : JW X B n k2 k3 pc L (vL b :: vL a :: st) M Q := by
  obtain ⟨p, l, e, R, s, m, args, below, meth, c, A, D, cA, f, nL⟩ := X
  obtain ⟨hx, hb, hmL, hown, hts, hK, hA, hSF, hdf, hdl⟩ := hX
  have hcs : k2 ≤ R.cells ∧ k3 ≤ R.slots := hcs
  intro hrL hrS hM hSH hW H locs ls hP hS hl
  have hsm : ((st.map (cv B)).map fun v => v.category).sum ≤ 8 := by
    have e : (st.map (cv B)).map (fun v => v.category) = st.map ct := by rw [List.map_map]; exact List.map_congr_left (fun v _ => cv_ct B v)
    rw [e]; exact Nat.le_of_ble_eq_true hst
  show W p l e R s m args below meth c H locs k2 k3 Q (F0 m pc ls (.long (Int64.ofInt b) :: .long (Int64.ofInt a) :: st.map (cv B)))
  refine va_mmin_long hx hb (hmL.trans hl.1.symm) hown (hts _ hml) (hts _ msJ9_min_f86c9) (hts _ mwJ9_min_f86c9.2) (hts _ mwJ9_min_f86c9.1) (by omega) (by omega) hcs.1 hcs.2 hd ?_
  have E0 := kk hrL (rcons (show rg n (vL (g_J9_min_f86c9 a b)) from g_minl_r (rh (rt hrS)) (rh hrS)) (rt (rt hrS))) hM hSH hW H locs ls hP hS hl
  have e2 : cv B (vL (g_J9_min_f86c9 a b)) = .long (if Int64.ofInt b < Int64.ofInt a then Int64.ofInt b else Int64.ofInt a) := by
    show Value.long (Int64.ofInt _) = _
    unfold g_J9_min_f86c9
    congr 1
    have ra := rh (rt hrS)
    have rb := rh hrS
    unfold rg at ra rb
    simp only [q_ltl ra rb, q_ltl rb ra]
    (repeat' split) <;> first | rfl | (exfalso; unfold lcm at *; split at * <;> omega) | (congr 1; unfold lcm at *; split at * <;> omega)
  rw [List.map_cons, e2] at E0
  exact E0
end JM
