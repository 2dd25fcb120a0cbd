/-! ROWS OF MAKING: objects, rows, tables; constructors -/
def zM (M : Mem) (n : Nat) : Mem := (fun c k => if c = n then 0 else M.1 c k, fun c k => if c = n then none else M.2 c k)
/-- a table: the outer row n of N references to the rows behind it -/
def zT (M : Mem) (n N : Nat) : Mem := (fun c k => if n ≤ c then 0 else M.1 c k, fun c k => if c = n then (if k < N then some (n + 1 + k) else none) else if n ≤ c then none else M.2 c k)
theorem rg_up {n n' : Nat} (h : n ≤ n') : ∀ {v : AV}, rg n v → rg n' v := by
  intro v hv
  rcases v with i | i | r | v
  · exact hv
  · exact hv
  · exact Nat.lt_of_lt_of_le hv h
  · trivial
theorem cv_up {n : Nat} {B B' : Nat → Nat} (h : ∀ i, i < n → B' i = B i) : ∀ {v : AV}, rg n v → cv B' v = cv B v := by
  intro v hv
  rcases v with i | i | r | v
  · rfl
  · rfl
  · show Value.ref (B' r) = .ref (B r)
    rw [h r hv]
  · rfl
theorem lm_up {n : Nat} {B B' : Nat → Nat} (h : ∀ i, i < n → B' i = B i) {L : List (Nat × AV)} (hL : ∀ q ∈ L, rg n q.2) : lm B' L = lm B L := List.map_congr_left fun q hq => by rw [cv_up h (hL q hq)]
theorem sm_up {n : Nat} {B B' : Nat → Nat} (h : ∀ i, i < n → B' i = B i) {L : List AV} (hL : ∀ q ∈ L, rg n q) : L.map (cv B') = L.map (cv B) := List.map_congr_left fun q hq => cv_up h (hL q hq)
theorem inr_z (t : Nat) : inr_ t 0 := by
  unfold inr_ r64 r32
  split
  · omega
  · split
    · omega
    · split <;> omega
theorem MR_z {n : Nat} {M : Mem} (h : MR n M) : MR (n + 1) (zM M n) := by
  refine ⟨fun c k hc => ?_, fun c k a hc e => ?_⟩
  · show inr_ _ (if c = n then 0 else M.1 c k)
    by_cases q : c = n
    · rw [if_pos q]; exact inr_z _
    · rw [if_neg q]; exact h.1 c k (by omega)
  · have e : (if c = n then none else M.2 c k) = some a := e
    by_cases q : c = n
    · rw [if_pos q] at e; cases e
    · rw [if_neg q] at e
      have := h.2 c k a (by omega) e
      omega
theorem MR_T {n N : Nat} {M : Mem} (h : MR n M) : MR (n + 1 + N) (zT M n N) := by
  refine ⟨fun c k hc => ?_, fun c k a hc e => ?_⟩
  · show inr_ _ (if n ≤ c then 0 else M.1 c k)
    by_cases q : n ≤ c
    · rw [if_pos q]; exact inr_z _
    · rw [if_neg q]; exact h.1 c k (by omega)
  · have e : (if c = n then (if k < N then some (n + 1 + k) else none) else if n ≤ c then none else M.2 c k) = some a := e
    by_cases q : c = n
    · rw [if_pos q] at e
      by_cases q2 : k < N
      · rw [if_pos q2] at e
        cases e
        omega
      · rw [if_neg q2] at e; cases e
    · rw [if_neg q] at e
      by_cases q2 : n ≤ c
      · rw [if_pos q2] at e; cases e
      · rw [if_neg q2] at e
        have := h.2 c k a (by omega) e
        omega
theorem ce_old {n : Nat} {cA : Nat → ClassId} {B B' : Nat → Nat} {M M' : Mem} (hM : MR n M) (hB : ∀ i, i < n → B' i = B i) (h1 : ∀ c k, c < n → gI M' c k = gI M c k) (h2 : ∀ c k, c < n → gR M' c k = gR M c k) {k : Nat} (hk : k < n) : ce cA B' M' k = ce cA B M k := by
  have e1 : ∀ j, gI M' k j = gI M k j := fun j => h1 k j hk
  have e2 : ∀ j, (gR M' k j).map B' = (gR M k j).map B := fun j => by
    rw [h2 k j hk]
    cases hg : gR M k j with
    | none => rfl
    | some a => exact congrArg some (hB a (hM.2 k j a hk hg))
  unfold ce
  simp only [e1, e2]
theorem wN_old {n : Nat} {cA : Nat → ClassId} {B B' : Nat → Nat} {M M' : Mem} (hM : MR n M) (hB : ∀ i, i < n → B' i = B i) (h1 : ∀ c k, c < n → gI M' c k = gI M c k) (h2 : ∀ c k, c < n → gR M' c k = gR M c k) : wN n cA B' M' = wN n cA B M := by
  unfold wN
  apply List.map_congr_left
  intro k hk
  have hk : k < n := List.mem_range.mp hk
  rw [hB k hk, ce_old hM hB h1 h2 hk]
theorem wN_succ (n : Nat) (cA : Nat → ClassId) (B : Nat → Nat) (M : Mem) : wN (n + 1) cA B M = wN n cA B M ++ [(B n, ce cA B M n)] := by
  unfold wN
  rw [List.range_succ, List.map_append]
  rfl
theorem zM_I {M : Mem} {n : Nat} : ∀ c k, c < n → gI (zM M n) c k = gI M c k := fun c k h => if_neg (by omega)
theorem zM_R {M : Mem} {n : Nat} : ∀ c k, c < n → gR (zM M n) c k = gR M c k := fun c k h => if_neg (by omega)
theorem zT_I {M : Mem} {n N : Nat} : ∀ c k, c < n → gI (zT M n N) c k = gI M c k := fun c k h => if_neg (by omega)
theorem zT_R {M : Mem} {n N : Nat} : ∀ c k, c < n → gR (zT M n N) c k = gR M c k := fun c k h => by
  show (if c = n then (if k < N then some (n + 1 + k) else none) else if n ≤ c then none else M.2 c k) = M.2 c k
  rw [if_neg (by omega), if_neg (by omega)]
theorem WB_of {n : Nat} {cA : Nat → ClassId} {B : Nat → Nat} {M : Mem} {A : Nat → Prop} (h : va_D A (wN n cA B M)) : WB n B A := ⟨fun i j hi hj e => h.1 i j _ _ (wN_get hi) (wN_get hj) e, fun i hi => h.2 i _ (wN_get hi)⟩
theorem up_old {B : Nat → Nat} {n q : Nat} : ∀ i, i < n → va_up B n q i = B i := fun i hi => if_neg (by omega)
theorem up_new {B : Nat → Nat} {n q : Nat} : va_up B n q n = q := if_pos rfl
section JN
variable {X : K0} {cc : ByteArray} {own : String} {d : Nat} {B : Nat → Nat} {n k2 k3 pc : Nat} {L : List (Nat × AV)} {st : List AV} {M : Mem} {Q : State → Prop}
theorem j_new (hX : Ctx X cc own d) (hf : (gX X).2.2.2.2 = false) {C : String} {F : u_T} {N ci ix : Nat} {t0 : Nat → FieldType} (hC : CB C F N ci t0) (hty : tyc n = (0, ci)) (hcl : Cond.classLink own ix C ∈ TB) (hins : Cond.instantiable C N ∈ TB) (hini : Cond.initialized C ∈ TB) (hdv : ∀ j, j < N → defaultValue (t0 j) = if (fk ci)[j]? = some 2 then Value.null else .int 0) (hk : k2 + 1 ≤ X.2.2.2.1.cells ∧ k3 + N ≤ X.2.2.2.1.slots) (hd : decode cc pc = .ok (.new ix, 3)) (kk : ∀ B', (∀ i, i < n → B' i = B i) → JW X B' (n + 1) (k2 + 1) (k3 + N) (pc + 3) L (vR n :: st) (zM M n) Q) : JW X B n k2 k3 pc L st M Q := by
  obtain ⟨p, l, e, R, s, m, args, below, meth, c, A, D, cA, f, nL⟩ := X
  obtain ⟨hx, hb, hmL, hown, hts, hK, hA, hSF, hdf0, hdl⟩ := hX
  have hk : k2 + 1 ≤ R.cells ∧ k3 + N ≤ R.slots := hk
  have hf : f = false := hf
  intro hrL hrS hM hSH hW H locs ls hP hS hl
  refine va_new (ci := ci) (fs := (fk ci).mapIdx (fv (fun _ => 0) (zM M n) n)) hx hb hts hC.1 t0 hC.2.2.1 hown (hts _ hcl) (hts _ hins) (hts _ hini) hK hP (wN_D hW) hS hA hC.2.1 (fun j hj => ?_) hk.1 hk.2 hd (fun q H1 hP1 hD1 hS1 => ?_)
  · rw [hdv j hj]
    unfold vp_V
    rw [List.getD_eq_getElem?_getD, List.getElem?_mapIdx]
    have hlt : j < (fk ci).length := by rw [hC.2.2.2.2.1]; exact hj
    have e : (fk ci)[j]? = some (fk ci)[j] := by simp [hlt]
    rw [e]
    generalize (fk ci)[j] = z
    have g1 : gR (zM M n) n j = none := if_pos rfl
    have g2 : gI (zM M n) n j = 0 := if_pos rfl
    by_cases hz : z = 2
    · subst hz
      simp [fv, g1, va_rf]
    · simp [fv, g2, hz, q_z]
  · have e1 : ce cA (va_up B n q) (zM M n) n = .inr (ci, (fk ci).mapIdx (fv (fun _ => 0) (zM M n) n)) := by
      rw [ce_o hty]
      have e : fv (va_up B n q) (zM M n) n = fv (fun _ => 0) (zM M n) n := by
        funext j z
        have g1 : gR (zM M n) n j = none := if_pos rfl
        unfold fv
        rw [g1]
        rfl
      rw [e]
    have e2 : wN n cA B M ++ [(q, .inr (ci, (fk ci).mapIdx (fv (fun _ => 0) (zM M n) n)))] = wN (n + 1) cA (va_up B n q) (zM M n) := by
      rw [wN_succ, up_new, e1, wN_old hM up_old zM_I zM_R]
    rw [e2] at hP1 hD1
    have K := kk (va_up B n q) up_old (fun x hx => rg_up (Nat.le_succ n) (hrL x hx)) (rcons (show rg (n + 1) (vR n) from Nat.lt_succ_self n) (fun x hx => rg_up (Nat.le_succ n) (hrS x hx))) (MR_z hM) (fun z => by rw [hf] at z; cases z) (WB_of hD1) H1 locs ls hP1 hS1 (by rw [lm_up up_old hrL]; exact hl)
    rw [List.map_cons, sm_up up_old hrS, show cv (va_up B n q) (vR n) = .ref q from congrArg Value.ref up_new] at K
    exact K
theorem j_newa_i (hX : Ctx X cc own d) (hf : (gX X).2.2.2.2 = false) {N : Nat} {z : Int} (hz : z = (N : Int)) (hN : N < 100000) (hty : tyc n = (1, N)) (harr : Cond.arrayClass .int ∈ TB) (hk : k2 + 1 ≤ X.2.2.2.1.cells ∧ k3 + N ≤ X.2.2.2.1.slots) (hd : decode cc pc = .ok (.newarray .int, 2)) (kk : ∀ B', (∀ i, i < n → B' i = B i) → JW X B' (n + 1) (k2 + 1) (k3 + N) (pc + 2) L (vR n :: st) (zM M n) Q) : JW X B n k2 k3 pc L (vI z :: st) M Q := by
  obtain ⟨p, l, e, R, s, m, args, below, meth, c, A, D, cA, f, nL⟩ := X
  obtain ⟨hx, hb, hmL, hown, hts, hK, hA, hSF, hdf0, hdl⟩ := hX
  have hk : k2 + 1 ≤ R.cells ∧ k3 + N ≤ R.slots := hk
  have hf : f = false := hf
  intro hrL hrS hM hSH hW H locs ls hP hS hl
  subst hz
  show W p l e R s m args below meth c H locs k2 k3 Q (F0 m pc ls (.int (Int32.ofInt (N : Int)) :: st.map (cv B)))
  have hrN : r32 (N : Int) := rh hrS
  refine va_newa (atype := .int) (ty := .int) (a0 := (N, .inl fun _ => Int32.ofInt 0)) hx hb (hts _ harr) rfl hK hP (wN_D hW) hS hA (fun c9 => by rw [show (Int32.ofInt 0 : Int32) = 0 from q_z]; rfl) (mt (q_lt0 hrN).mp (by omega)) (by rw [q_nat (by omega) hrN]; omega) (by show N * 4 ≤ 536870912; omega) hk.1 hk.2 hd (fun q c9 H1 hK1 hP1 hD1 hS1 => ?_)
  have ec : c9 = cA 1 := by
    have h1 := va_nm_int (hK1.2 6 (c9, .int) rfl).2
    have h2 := va_nm_int (hK.2 0 (cA 1, .int) rfl).2
    exact Option.some.inj (h1.symm.trans h2)
  subst ec
  have e1 : ce cA (va_up B n q) (zM M n) n = .inl (cA 1, N, .inl fun _ => Int32.ofInt 0) := by
    rw [ce_int hty (by decide) (by decide) (by decide)]
    have e : (fun j => Int32.ofInt (gI (zM M n) n j)) = fun _ => Int32.ofInt 0 := funext fun j => by rw [show gI (zM M n) n j = 0 from if_pos rfl]
    rw [e]
  have e2 : wN n cA B M ++ [(q, .inl (cA 1, N, .inl fun _ => Int32.ofInt 0))] = wN (n + 1) cA (va_up B n q) (zM M n) := by
    rw [wN_succ, up_new, e1, wN_old hM up_old zM_I zM_R]
  rw [e2] at hP1 hD1
  have K := kk (va_up B n q) up_old (fun x hx => rg_up (Nat.le_succ n) (hrL x hx)) (rcons (show rg (n + 1) (vR n) from Nat.lt_succ_self n) (fun x hx => rg_up (Nat.le_succ n) (rt hrS x hx))) (MR_z hM) (fun z => by rw [hf] at z; cases z) (WB_of hD1) H1 locs ls hP1 hS1 (by rw [lm_up up_old hrL]; exact hl)
  rw [List.map_cons, sm_up up_old (rt hrS), show cv (va_up B n q) (vR n) = .ref q from congrArg Value.ref up_new] at K
  exact K
theorem j_newa_l (hX : Ctx X cc own d) (hf : (gX X).2.2.2.2 = false) {N : Nat} {z : Int} (hz : z = (N : Int)) (hN : N < 100000) (hty : tyc n = (2, N)) (harr : Cond.arrayClass .long ∈ TB) (hk : k2 + 1 ≤ X.2.2.2.1.cells ∧ k3 + N ≤ X.2.2.2.1.slots) (hd : decode cc pc = .ok (.newarray .long, 2)) (kk : ∀ B', (∀ i, i < n → B' i = B i) → JW X B' (n + 1) (k2 + 1) (k3 + N) (pc + 2) L (vR n :: st) (zM M n) Q) : JW X B n k2 k3 pc L (vI z :: st) M Q := by
  obtain ⟨p, l, e, R, s, m, args, below, meth, c, A, D, cA, f, nL⟩ := X
  obtain ⟨hx, hb, hmL, hown, hts, hK, hA, hSF, hdf0, hdl⟩ := hX
  have hk : k2 + 1 ≤ R.cells ∧ k3 + N ≤ R.slots := hk
  have hf : f = false := hf
  intro hrL hrS hM hSH hW H locs ls hP hS hl
  subst hz
  show W p l e R s m args below meth c H locs k2 k3 Q (F0 m pc ls (.int (Int32.ofInt (N : Int)) :: st.map (cv B)))
  have hrN : r32 (N : Int) := rh hrS
  refine va_newa (atype := .long) (ty := .long) (a0 := (N, .inr (.inl fun _ => Int64.ofInt 0))) hx hb (hts _ harr) rfl hK hP (wN_D hW) hS hA (fun c9 => by rw [show (Int64.ofInt 0 : Int64) = 0 from q_lz]; rfl) (mt (q_lt0 hrN).mp (by omega)) (by rw [q_nat (by omega) hrN]; omega) (by show N * 8 ≤ 536870912; omega) hk.1 hk.2 hd (fun q c9 H1 hK1 hP1 hD1 hS1 => ?_)
  have ec : c9 = cA 2 := by
    have h1 := va_nm_long (hK1.2 6 (c9, .long) rfl).2
    have h2 := va_nm_long (hK.2 1 (cA 2, .long) rfl).2
    exact Option.some.inj (h1.symm.trans h2)
  subst ec
  have e1 : ce cA (va_up B n q) (zM M n) n = .inl (cA 2, N, .inr (.inl fun _ => Int64.ofInt 0)) := by
    rw [ce_long hty]
    have e : (fun j => Int64.ofInt (gI (zM M n) n j)) = fun _ => Int64.ofInt 0 := funext fun j => by rw [show gI (zM M n) n j = 0 from if_pos rfl]
    rw [e]
  have e2 : wN n cA B M ++ [(q, .inl (cA 2, N, .inr (.inl fun _ => Int64.ofInt 0)))] = wN (n + 1) cA (va_up B n q) (zM M n) := by
    rw [wN_succ, up_new, e1, wN_old hM up_old zM_I zM_R]
  rw [e2] at hP1 hD1
  have K := kk (va_up B n q) up_old (fun x hx => rg_up (Nat.le_succ n) (hrL x hx)) (rcons (show rg (n + 1) (vR n) from Nat.lt_succ_self n) (fun x hx => rg_up (Nat.le_succ n) (rt hrS x hx))) (MR_z hM) (fun z => by rw [hf] at z; cases z) (WB_of hD1) H1 locs ls hP1 hS1 (by rw [lm_up up_old hrL]; exact hl)
  rw [List.map_cons, sm_up up_old (rt hrS), show cv (va_up B n q) (vR n) = .ref q from congrArg Value.ref up_new] at K
  exact K
theorem j_newa_b (hX : Ctx X cc own d) (hf : (gX X).2.2.2.2 = false) {N : Nat} {z : Int} (hz : z = (N : Int)) (hN : N < 100000) (hty : tyc n = (3, N)) (harr : Cond.arrayClass .byte ∈ TB) (hk : k2 + 1 ≤ X.2.2.2.1.cells ∧ k3 + N ≤ X.2.2.2.1.slots) (hd : decode cc pc = .ok (.newarray .byte, 2)) (kk : ∀ B', (∀ i, i < n → B' i = B i) → JW X B' (n + 1) (k2 + 1) (k3 + N) (pc + 2) L (vR n :: st) (zM M n) Q) : JW X B n k2 k3 pc L (vI z :: st) M Q := by
  obtain ⟨p, l, e, R, s, m, args, below, meth, c, A, D, cA, f, nL⟩ := X
  obtain ⟨hx, hb, hmL, hown, hts, hK, hA, hSF, hdf0, hdl⟩ := hX
  have hk : k2 + 1 ≤ R.cells ∧ k3 + N ≤ R.slots := hk
  have hf : f = false := hf
  intro hrL hrS hM hSH hW H locs ls hP hS hl
  subst hz
  show W p l e R s m args below meth c H locs k2 k3 Q (F0 m pc ls (.int (Int32.ofInt (N : Int)) :: st.map (cv B)))
  have hrN : r32 (N : Int) := rh hrS
  refine va_newa (atype := .byte) (ty := .byte) (a0 := (N, .inl fun _ => Int32.ofInt 0)) hx hb (hts _ harr) rfl hK hP (wN_D hW) hS hA (fun c9 => by rw [show (Int32.ofInt 0 : Int32) = 0 from q_z]; rfl) (mt (q_lt0 hrN).mp (by omega)) (by rw [q_nat (by omega) hrN]; omega) (by show N * 1 ≤ 536870912; omega) hk.1 hk.2 hd (fun q c9 H1 hK1 hP1 hD1 hS1 => ?_)
  have ec : c9 = cA 3 := by
    have h1 := va_nm_byte (hK1.2 6 (c9, .byte) rfl).2
    have h2 := va_nm_byte (hK.2 2 (cA 3, .byte) rfl).2
    exact Option.some.inj (h1.symm.trans h2)
  subst ec
  have e1 : ce cA (va_up B n q) (zM M n) n = .inl (cA 3, N, .inl fun _ => Int32.ofInt 0) := by
    rw [ce_int hty (by decide) (by decide) (by decide)]
    have e : (fun j => Int32.ofInt (gI (zM M n) n j)) = fun _ => Int32.ofInt 0 := funext fun j => by rw [show gI (zM M n) n j = 0 from if_pos rfl]
    rw [e]
  have e2 : wN n cA B M ++ [(q, .inl (cA 3, N, .inl fun _ => Int32.ofInt 0))] = wN (n + 1) cA (va_up B n q) (zM M n) := by
    rw [wN_succ, up_new, e1, wN_old hM up_old zM_I zM_R]
  rw [e2] at hP1 hD1
  have K := kk (va_up B n q) up_old (fun x hx => rg_up (Nat.le_succ n) (hrL x hx)) (rcons (show rg (n + 1) (vR n) from Nat.lt_succ_self n) (fun x hx => rg_up (Nat.le_succ n) (rt hrS x hx))) (MR_z hM) (fun z => by rw [hf] at z; cases z) (WB_of hD1) H1 locs ls hP1 hS1 (by rw [lm_up up_old hrL]; exact hl)
  rw [List.map_cons, sm_up up_old (rt hrS), show cv (va_up B n q) (vR n) = .ref q from congrArg Value.ref up_new] at K
  exact K
theorem j_newa_s (hX : Ctx X cc own d) (hf : (gX X).2.2.2.2 = false) {N : Nat} {z : Int} (hz : z = (N : Int)) (hN : N < 100000) (hty : tyc n = (4, N)) (harr : Cond.arrayClass .short ∈ TB) (hk : k2 + 1 ≤ X.2.2.2.1.cells ∧ k3 + N ≤ X.2.2.2.1.slots) (hd : decode cc pc = .ok (.newarray .short, 2)) (kk : ∀ B', (∀ i, i < n → B' i = B i) → JW X B' (n + 1) (k2 + 1) (k3 + N) (pc + 2) L (vR n :: st) (zM M n) Q) : JW X B n k2 k3 pc L (vI z :: st) M Q := by
  obtain ⟨p, l, e, R, s, m, args, below, meth, c, A, D, cA, f, nL⟩ := X
  obtain ⟨hx, hb, hmL, hown, hts, hK, hA, hSF, hdf0, hdl⟩ := hX
  have hk : k2 + 1 ≤ R.cells ∧ k3 + N ≤ R.slots := hk
  have hf : f = false := hf
  intro hrL hrS hM hSH hW H locs ls hP hS hl
  subst hz
  show W p l e R s m args below meth c H locs k2 k3 Q (F0 m pc ls (.int (Int32.ofInt (N : Int)) :: st.map (cv B)))
  have hrN : r32 (N : Int) := rh hrS
  refine va_newa (atype := .short) (ty := .short) (a0 := (N, .inl fun _ => Int32.ofInt 0)) hx hb (hts _ harr) rfl hK hP (wN_D hW) hS hA (fun c9 => by rw [show (Int32.ofInt 0 : Int32) = 0 from q_z]; rfl) (mt (q_lt0 hrN).mp (by omega)) (by rw [q_nat (by omega) hrN]; omega) (by show N * 2 ≤ 536870912; omega) hk.1 hk.2 hd (fun q c9 H1 hK1 hP1 hD1 hS1 => ?_)
  have ec : c9 = cA 4 := by
    have h1 := va_nm_short (hK1.2 6 (c9, .short) rfl).2
    have h2 := va_nm_short (hK.2 3 (cA 4, .short) rfl).2
    exact Option.some.inj (h1.symm.trans h2)
  subst ec
  have e1 : ce cA (va_up B n q) (zM M n) n = .inl (cA 4, N, .inl fun _ => Int32.ofInt 0) := by
    rw [ce_int hty (by decide) (by decide) (by decide)]
    have e : (fun j => Int32.ofInt (gI (zM M n) n j)) = fun _ => Int32.ofInt 0 := funext fun j => by rw [show gI (zM M n) n j = 0 from if_pos rfl]
    rw [e]
  have e2 : wN n cA B M ++ [(q, .inl (cA 4, N, .inl fun _ => Int32.ofInt 0))] = wN (n + 1) cA (va_up B n q) (zM M n) := by
    rw [wN_succ, up_new, e1, wN_old hM up_old zM_I zM_R]
  rw [e2] at hP1 hD1
  have K := kk (va_up B n q) up_old (fun x hx => rg_up (Nat.le_succ n) (hrL x hx)) (rcons (show rg (n + 1) (vR n) from Nat.lt_succ_self n) (fun x hx => rg_up (Nat.le_succ n) (rt hrS x hx))) (MR_z hM) (fun z => by rw [hf] at z; cases z) (WB_of hD1) H1 locs ls hP1 hS1 (by rw [lm_up up_old hrL]; exact hl)
  rw [List.map_cons, sm_up up_old (rt hrS), show cv (va_up B n q) (vR n) = .ref q from congrArg Value.ref up_new] at K
  exact K
theorem j_mna_i (hX : Ctx X cc own d) (hf : (gX X).2.2.2.2 = false) {N K ix : Nat} {zn zk : Int} (hzn : zn = (N : Int)) (hzk : zk = (K : Int)) (hN : N < 1000) (hKk : K < 1000) (hty : tyc n = (5, N)) (hti : ∀ j, j < N → tyc (n + 1 + j) = (1, K)) (harr : Cond.arrayClass .int ∈ TB) (hcl : Cond.classLink own ix ("[" ++ (FieldType.array .int).toString) ∈ TB) (hk : k2 + (1 + N) ≤ X.2.2.2.1.cells ∧ k3 + (N + N * K) ≤ X.2.2.2.1.slots) (hd : decode cc pc = .ok (.multianewarray ix 2, 4)) (kk : ∀ B', (∀ i, i < n → B' i = B i) → JW X B' (n + 1 + N) (k2 + 1 + N) (k3 + N + N * K) (pc + 4) L (vR n :: st) (zT M n N) Q) : JW X B n k2 k3 pc L (vI zk :: vI zn :: st) M Q := by
  obtain ⟨p, l, e, R, s, m, args, below, meth, c, A, D, cA, f, nL⟩ := X
  obtain ⟨hx, hb, hmL, hown, hts, hK, hA, hSF, hdf0, hdl⟩ := hX
  have hk : k2 + (1 + N) ≤ R.cells ∧ k3 + (N + N * K) ≤ R.slots := hk
  have hf : f = false := hf
  intro hrL hrS hM hSH hW H locs ls hP hS hl
  subst hzn
  subst hzk
  show W p l e R s m args below meth c H locs k2 k3 Q (F0 m pc ls (.int (Int32.ofInt (K : Int)) :: .int (Int32.ofInt (N : Int)) :: st.map (cv B)))
  have hrK : r32 (K : Int) := rh hrS
  have hrN : r32 (N : Int) := rh (rt hrS)
  have hfA : s.vm.findClass ("[" ++ (FieldType.array .int).toString) = some (cA 5) := (hK.2 4 (cA 5, .array .int) rfl).2
  have hfC : s.vm.findClass (FieldType.array .int).toString = some (cA 1) := va_nm_int (hK.2 0 (cA 1, .int) rfl).2
  refine W.mz (ty := .int) (cA := cA 5) (comp := cA 1) (N := N) (K := K) hx hb hown (hts _ hcl) hSF.2.2.1.2.1 (hts _ harr) hfA hfC rfl hd rfl (mt (q_lt0 hrN).mp (by omega)) (mt (q_lt0 hrK).mp (by omega)) (by rw [q_nat (by omega) hrN]; omega) (by rw [q_nat (by omega) hrK]; omega) (by omega) (by show K * 4 ≤ 536870912; omega) (by omega) rfl rfl hk.1 hk.2 (fun H1 locs1 z1 z2 z3 z4 z5 => ?_)
  have hBn : ∀ i, i < n → B i < H.size := fun i hi => (hP i _ (wN_get hi)).lt
  obtain ⟨B', hB'⟩ : ∃ B' : Nat → Nat, ∀ i, B' i = if i < n then B i else H.size + (i - n) := ⟨_, fun _ => rfl⟩
  have hold : ∀ i, i < n → B' i = B i := fun i hi => by rw [hB', if_pos hi]
  have hnew : ∀ j, B' (n + j) = H.size + j := fun j => by rw [hB', if_neg (by omega)]; congr 1; omega
  have hWB : WB (n + 1 + N) B' A := by
    refine ⟨fun i j hi hj e => ?_, fun i hi => ?_⟩
    · by_cases q1 : i < n <;> by_cases q2 : j < n
      · rw [hold i q1, hold j q2] at e; exact hW.1 i j q1 q2 e
      · rw [hold i q1, hB' j, if_neg q2] at e; have := hBn i q1; omega
      · rw [hold j q2, hB' i, if_neg q1] at e; have := hBn j q2; omega
      · rw [hB' i, hB' j, if_neg q1, if_neg q2] at e; omega
    · by_cases q1 : i < n
      · rw [hold i q1]; exact hW.2 i q1
      · rw [hB' i, if_neg q1]; exact hA _ (by have := hS.1; omega)
  have hP1 : va_P D cl (wN (n + 1 + N) cA B' (zT M n N)) H1 := by
    intro k q hq
    have hkl : k < n + 1 + N := by have := (List.getElem?_eq_some_iff.mp hq).1; simpa [wN] using this
    rw [wN_get hkl] at hq
    cases hq
    by_cases q1 : k < n
    · have h0 := hP k _ (wN_get q1)
      have e0 : ce cA B' (zT M n N) k = ce cA B M k := ce_old hM hold zT_I zT_R q1
      rw [e0, hold k q1]
      exact h0.kept (z3 _ (hBn k q1))
    · by_cases q2 : k = n
      · subst q2
        have e9 := hnew 0
        rw [Nat.add_zero, Nat.add_zero] at e9
        show va_at D cl (B' k, ce cA B' (zT M k N) k) H1
        rw [ce_ref hty (by decide), e9]
        show H1[H.size]? = some (vp_cell _ _)
        rw [z2, vp_cell_q]
        congr 1
        unfold mzO arrV
        congr 1
        apply Array.ext_getElem?
        intro j
        by_cases hj : j < N
        · have e8 : gR (zT M k N) k j = some (k + 1 + j) := by
            show (if k = k then (if j < N then some (k + 1 + j) else none) else _) = _
            rw [if_pos rfl, if_pos hj]
          have e7 := hnew (1 + j)
          rw [← Nat.add_assoc, ← Nat.add_assoc] at e7
          simp [hj, e8, va_rf, e7]
        · simp [hj]
      · obtain ⟨j, rfl⟩ : ∃ j, k = n + 1 + j := ⟨k - n - 1, by omega⟩
        have hj : j < N := by omega
        have e9 := hnew (1 + j)
        rw [← Nat.add_assoc, ← Nat.add_assoc] at e9
        show va_at D cl (B' (n + 1 + j), ce cA B' (zT M n N) (n + 1 + j)) H1
        rw [ce_int (hti j hj) (by decide) (by decide) (by decide), e9]
        show H1[H.size + 1 + j]? = some (vp_cell _ _)
        rw [z4 j hj]
        have e8 : ∀ x, gI (zT M n N) (n + 1 + j) x = 0 := fun x => if_pos (by omega)
        simp only [e8]
        congr 1
        rw [show (Int32.ofInt 0 : Int32) = 0 from q_z]
        rw [vp_cell_i, ← arrV_new]
        rfl
  have hS1 : va_S A s.heap H1 locs1 := ⟨by have := hS.1; omega, fun q h1 h2 => by rw [z3 q (by have := hS.1; omega)]; exact hS.2.1 q h1 h2, fun q hq => by
    rcases z5 q hq with h | h
    · exact hS.2.2 q h
    · rw [h]; exact hA _ hS.1⟩
  have K0 := kk B' hold (fun x hx => rg_up (by omega) (hrL x hx)) (rcons (show rg (n + 1 + N) (vR n) from by show n < n + 1 + N; omega) (fun x hx => rg_up (by omega) (rt (rt hrS) x hx))) (MR_T hM) (fun z => by rw [hf] at z; cases z) hWB H1 locs1 ls hP1 hS1 (by rw [lm_up hold hrL]; exact hl)
  have e6 := hnew 0
  rw [Nat.add_zero, Nat.add_zero] at e6
  rw [List.map_cons, sm_up hold (rt (rt hrS)), show cv B' (vR n) = .ref H.size from congrArg Value.ref e6] at K0
  exact K0
theorem j_mna_l (hX : Ctx X cc own d) (hf : (gX X).2.2.2.2 = false) {N K ix : Nat} {zn zk : Int} (hzn : zn = (N : Int)) (hzk : zk = (K : Int)) (hN : N < 1000) (hKk : K < 1000) (hty : tyc n = (6, N)) (hti : ∀ j, j < N → tyc (n + 1 + j) = (2, K)) (harr : Cond.arrayClass .long ∈ TB) (hcl : Cond.classLink own ix ("[" ++ (FieldType.array .long).toString) ∈ TB) (hk : k2 + (1 + N) ≤ X.2.2.2.1.cells ∧ k3 + (N + N * K) ≤ X.2.2.2.1.slots) (hd : decode cc pc = .ok (.multianewarray ix 2, 4)) (kk : ∀ B', (∀ i, i < n → B' i = B i) → JW X B' (n + 1 + N) (k2 + 1 + N) (k3 + N + N * K) (pc + 4) L (vR n :: st) (zT M n N) Q) : JW X B n k2 k3 pc L (vI zk :: vI zn :: st) M Q := by
  obtain ⟨p, l, e, R, s, m, args, below, meth, c, A, D, cA, f, nL⟩ := X
  obtain ⟨hx, hb, hmL, hown, hts, hK, hA, hSF, hdf0, hdl⟩ := hX
  have hk : k2 + (1 + N) ≤ R.cells ∧ k3 + (N + N * K) ≤ R.slots := hk
  have hf : f = false := hf
  intro hrL hrS hM hSH hW H locs ls hP hS hl
  subst hzn
  subst hzk
  show W p l e R s m args below meth c H locs k2 k3 Q (F0 m pc ls (.int (Int32.ofInt (K : Int)) :: .int (Int32.ofInt (N : Int)) :: st.map (cv B)))
  have hrK : r32 (K : Int) := rh hrS
  have hrN : r32 (N : Int) := rh (rt hrS)
  have hfA : s.vm.findClass ("[" ++ (FieldType.array .long).toString) = some (cA 6) := (hK.2 5 (cA 6, .array .long) rfl).2
  have hfC : s.vm.findClass (FieldType.array .long).toString = some (cA 2) := va_nm_long (hK.2 1 (cA 2, .long) rfl).2
  refine W.mz (ty := .long) (cA := cA 6) (comp := cA 2) (N := N) (K := K) hx hb hown (hts _ hcl) hSF.2.2.1.2.2 (hts _ harr) hfA hfC rfl hd rfl (mt (q_lt0 hrN).mp (by omega)) (mt (q_lt0 hrK).mp (by omega)) (by rw [q_nat (by omega) hrN]; omega) (by rw [q_nat (by omega) hrK]; omega) (by omega) (by show K * 8 ≤ 536870912; omega) (by omega) rfl rfl hk.1 hk.2 (fun H1 locs1 z1 z2 z3 z4 z5 => ?_)
  have hBn : ∀ i, i < n → B i < H.size := fun i hi => (hP i _ (wN_get hi)).lt
  obtain ⟨B', hB'⟩ : ∃ B' : Nat → Nat, ∀ i, B' i = if i < n then B i else H.size + (i - n) := ⟨_, fun _ => rfl⟩
  have hold : ∀ i, i < n → B' i = B i := fun i hi => by rw [hB', if_pos hi]
  have hnew : ∀ j, B' (n + j) = H.size + j := fun j => by rw [hB', if_neg (by omega)]; congr 1; omega
  have hWB : WB (n + 1 + N) B' A := by
    refine ⟨fun i j hi hj e => ?_, fun i hi => ?_⟩
    · by_cases q1 : i < n <;> by_cases q2 : j < n
      · rw [hold i q1, hold j q2] at e; exact hW.1 i j q1 q2 e
      · rw [hold i q1, hB' j, if_neg q2] at e; have := hBn i q1; omega
      · rw [hold j q2, hB' i, if_neg q1] at e; have := hBn j q2; omega
      · rw [hB' i, hB' j, if_neg q1, if_neg q2] at e; omega
    · by_cases q1 : i < n
      · rw [hold i q1]; exact hW.2 i q1
      · rw [hB' i, if_neg q1]; exact hA _ (by have := hS.1; omega)
  have hP1 : va_P D cl (wN (n + 1 + N) cA B' (zT M n N)) H1 := by
    intro k q hq
    have hkl : k < n + 1 + N := by have := (List.getElem?_eq_some_iff.mp hq).1; simpa [wN] using this
    rw [wN_get hkl] at hq
    cases hq
    by_cases q1 : k < n
    · have h0 := hP k _ (wN_get q1)
      have e0 : ce cA B' (zT M n N) k = ce cA B M k := ce_old hM hold zT_I zT_R q1
      rw [e0, hold k q1]
      exact h0.kept (z3 _ (hBn k q1))
    · by_cases q2 : k = n
      · subst q2
        have e9 := hnew 0
        rw [Nat.add_zero, Nat.add_zero] at e9
        show va_at D cl (B' k, ce cA B' (zT M k N) k) H1
        rw [ce_ref hty (by decide), e9]
        show H1[H.size]? = some (vp_cell _ _)
        rw [z2, vp_cell_q]
        congr 1
        unfold mzO arrV
        congr 1
        apply Array.ext_getElem?
        intro j
        by_cases hj : j < N
        · have e8 : gR (zT M k N) k j = some (k + 1 + j) := by
            show (if k = k then (if j < N then some (k + 1 + j) else none) else _) = _
            rw [if_pos rfl, if_pos hj]
          have e7 := hnew (1 + j)
          rw [← Nat.add_assoc, ← Nat.add_assoc] at e7
          simp [hj, e8, va_rf, e7]
        · simp [hj]
      · obtain ⟨j, rfl⟩ : ∃ j, k = n + 1 + j := ⟨k - n - 1, by omega⟩
        have hj : j < N := by omega
        have e9 := hnew (1 + j)
        rw [← Nat.add_assoc, ← Nat.add_assoc] at e9
        show va_at D cl (B' (n + 1 + j), ce cA B' (zT M n N) (n + 1 + j)) H1
        rw [ce_long (hti j hj), e9]
        show H1[H.size + 1 + j]? = some (vp_cell _ _)
        rw [z4 j hj]
        have e8 : ∀ x, gI (zT M n N) (n + 1 + j) x = 0 := fun x => if_pos (by omega)
        simp only [e8]
        congr 1
        rw [show (Int64.ofInt 0 : Int64) = 0 from q_lz]
        rw [vp_cell_l, ← arrV_new]
        rfl
  have hS1 : va_S A s.heap H1 locs1 := ⟨by have := hS.1; omega, fun q h1 h2 => by rw [z3 q (by have := hS.1; omega)]; exact hS.2.1 q h1 h2, fun q hq => by
    rcases z5 q hq with h | h
    · exact hS.2.2 q h
    · rw [h]; exact hA _ hS.1⟩
  have K0 := kk B' hold (fun x hx => rg_up (by omega) (hrL x hx)) (rcons (show rg (n + 1 + N) (vR n) from by show n < n + 1 + N; omega) (fun x hx => rg_up (by omega) (rt (rt hrS) x hx))) (MR_T hM) (fun z => by rw [hf] at z; cases z) hWB H1 locs1 ls hP1 hS1 (by rw [lm_up hold hrL]; exact hl)
  have e6 := hnew 0
  rw [Nat.add_zero, Nat.add_zero] at e6
  rw [List.map_cons, sm_up hold (rt (rt hrS)), show cv B' (vR n) = .ref H.size from congrArg Value.ref e6] at K0
  exact K0
theorem j_obj (hX : Ctx X cc own d) {o ix : Nat} (hd1 : 1 ≤ d) (hlk : Cond.methodLink own ix objectInit ∈ TB) (hin : Cond.instanceMethod objectInit ∈ TB) (hco : Cond.code objectInit ⟨#[0xb1]⟩ 1 none ∈ TB) (hd : decode cc pc = .ok (.invokespecial ix, 3)) (hst : Nat.ble (st.map ct).sum 8 = true) (kk : JW X B n k2 k3 (pc + 3) L st M Q) : JW X B n k2 k3 pc L (vR o :: st) M Q := by
  obtain ⟨p, l, e, R, s, m, args, below, meth, c, A, D, cA, f, nL⟩ := X
  obtain ⟨hx, hb, hmL, hown, hts, hK, hA, hSF, hdf0, hdl⟩ := hX
  intro hrL hrS hM hSH hW H locs ls hP hS hl
  have hsm : ((st.map (cv B)).map fun v => v.category).sum ≤ 8 := by
    have e : (st.map (cv B)).map (fun v => v.category) = st.map ct := by rw [List.map_map]; exact List.map_congr_left (fun v _ => cv_ct B v)
    rw [e]; exact Nat.le_of_ble_eq_true hst
  refine W.objInit hx hb hown (hts _ hlk) (hts _ hin) (hts _ hco) rfl (by rw [hmL]; exact hl.1) rfl hd (by omega) (by show 2 * 0 + _ + 12 ≤ R.locals; omega) ?_
  refine W.eq (g2 := F0 m (pc + 3) ls (st.map (cv B))) rfl ?_
  exact kk hrL (rt hrS) hM hSH hW H locs ls hP hS hl
end JN
/-- a constructor's contract: from n cells on, n' are there behind it -/
def CnC (g : G0) (n n' mc ms : Nat) (y : MethodName) (cc : ByteArray) (maxL d : Nat) (a : List AV) (M M' : Mem) : Prop := ∀ B : Nat → Nat, PreM g B n a M → Met g.1 y (.code y cc maxL none :: TB) ({ frames := d, cells := mc, slots := ms, locals := 60 * d }) (va_Pc (a.map (cv B)) (Wd g B n M)) (va_Qv (fun (B' : Nat → Nat) => (∀ i, i < n → B' i = B i) ∧ WB n' B' g.2.1 ∧ MR n' M') (fun B' t => va_P g.2.2.1 cl (wN n' g.2.2.2.1 B' M') t.heap) g.2.1) mc ms g.2.1
def QMc (X : K0) (B : Nat → Nat) (n n' mc ms : Nat) (M' : Mem) : State → Prop := match X with
  | (p, l, e, R, s, m, args, below, meth, c, A, D, cA, f, nL) => MQ below (va_Qv (fun (B' : Nat → Nat) => (∀ i, i < n → B' i = B i) ∧ WB n' B' A ∧ MR n' M') (fun B' t => va_P D cl (wN n' cA B' M') t.heap) A) args s mc ms A
theorem CnC.of {g : G0} {n n' mc ms : Nat} {y : MethodName} {cc : ByteArray} {maxL d : Nat} {a : List AV} {M M' : Mem} (hy : plainName y.cls = true) (hyn : y.name = "<init>") (hsz : (a.map fun v => if ct v = 2 then 2 else 1).sum ≤ maxL) (k : ∀ (X : K0) (B : Nat → Nat), gX X = g → X.2.2.2.2.2.2.2.2.2.2.2.2.2.2 = maxL → Ctx X cc y.cls d → CR X none → X.2.2.2.2.2.2.2.2.1.name = "<init>" → X.2.2.2.1.cells = mc → X.2.2.2.1.slots = ms → JW X B n 0 0 0 (aL 0 a) [] M (QMc X B n n' mc ms M')) : CnC g n n' mc ms y cc maxL d a M M' := by
  intro B hPre
  refine Met.ofW (cc := cc) (maxL := maxL) (ret := none) hy rfl ?_
  intro p e s m args below meth c s₁ Bd hml hv
  obtain ⟨rfl, hP, hK, hSF, hA⟩ := hv
  have hts : ∀ w ∈ TB, w.before (a.map (cv B)).toArray s = true := fun w hw => atoms_spec (ws := .code y cc maxL none :: TB) Bd.pre w (List.mem_cons_of_mem _ hw)
  have hown : s.vm.findClass y.cls = some m.cls := findClass_of_methodNamed Bd.named
  have hin : meth.name = "<init>" := ((name_of_methodNamed Bd.named Bd.method).1).trans hyn
  rw [lg_entry_eq]
  have hl := lv_entry (a.map (cv B)) (n := maxL) (by rw [sl_len]; exact hsz)
  rw [aL_lm] at hl
  exact k (p, g.1, e, (headSpec (.code y cc maxL none :: TB) ({ frames := d, cells := mc, slots := ms, locals := 60 * d })).room, s, m, (a.map (cv B)).toArray, below, meth, c, g.2.1, g.2.2.1, g.2.2.2.1, g.2.2.2.2, maxL) B rfl rfl ⟨Bd.exec, Bd.bytes, hml, hown, hts, hK, hA, hSF, Nat.le_refl _, Nat.le_refl _⟩ ⟨Bd.returns, Bd.notSynchronized⟩ hin rfl rfl (aL_rg hPre.1 0) (fun v h => by cases h) hPre.2.1 hPre.2.2.1 hPre.2.2.2 s.heap [] _ hP va_S.rf hl
section JCC
variable {X : K0} {cc : ByteArray} {own : String} {d : Nat} {B B0 : Nat → Nat} {n n0 n' k2 k3 pc mc ms : Nat} {L : List (Nat × AV)} {st stk' : List AV} {M M' : Mem} {Q : State → Prop}
variable {y : MethodName} {ccy : ByteArray} {maxL dc ix o : Nat} {as : List AV}
theorem j_cret (hX : Ctx X cc own d) (hr : CR X none) (hB : ∀ i, i < n0 → B i = B0 i) (hd : decode cc pc = .ok (.return_, 1)) : JW X B n mc ms pc L [] M (QMc X B0 n0 n mc ms M) := by
  obtain ⟨p, l, e, R, s, m, args, below, meth, c, A, D, cA, f, nL⟩ := X
  obtain ⟨hx, hb, hmL, hown, hts, hK, hA, hSF, hdf0, hdl⟩ := hX
  intro hrL hrS hM hSH hW H locs ls hP hS hl
  exact W.vret hx hb hr.1 (fun t ht hWm => ⟨⟨B, rfl, ⟨hB, hW, hM⟩, show va_P D cl (wN n cA B M) t.heap from by rw [ht]; exact hP⟩, hS.F ht⟩) hS.2.2 hd (hlocks := hr.2)
theorem j_callC (hX : Ctx X cc own d) (hf : (gX X).2.2.2.2 = false) (hMW : MW y ccy maxL none) (hin : Cond.instanceMethod y ∈ TB) (hml : Cond.methodLink own ix y ∈ TB) (hy1 : y.name = "<init>") (hy : y.cls ≠ "java/lang/invoke/MethodHandle" ∧ y.cls ≠ "java/lang/invoke/VarHandle") (hdc : dc + 1 ≤ d) (hmx : maxL ≤ 41) (hk : k2 + mc ≤ X.2.2.2.1.cells ∧ k3 + ms ≤ X.2.2.2.1.slots) (hd : decode cc pc = .ok (.invokespecial ix, 3)) (hnn : n ≤ n') (hC : CnC (gX X) n n' mc ms y ccy maxL dc (vR o :: as) M M') (hn : (parseMethodDescriptor y.desc).map (fun d => d.parameters.length) = some as.length) (hs : stk' = as.reverse ++ vR o :: st) (hst : (st.map ct).sum ≤ 8) (kk : ∀ B', (∀ i, i < n → B' i = B i) → JW X B' n' (k2 + mc) (k3 + ms) (pc + 3) L st M' Q) : JW X B n k2 k3 pc L stk' M Q := by
  subst hs
  obtain ⟨p, l, e, R, s, m, args, below, meth, c, A, D, cA, f, nL⟩ := X
  obtain ⟨hx, hb, hmL, hown, hts, hK, hA, hSF, hdf0, hdl⟩ := hX
  have hk : k2 + mc ≤ R.cells ∧ k3 + ms ≤ R.slots := hk
  have hf : f = false := hf
  intro hrL hrS hM hSH hW H locs ls hP hS hl
  have hr1 : ∀ v ∈ as, rg n v := fun v hv => hrS v (List.mem_append_left _ (List.mem_reverse.mpr hv))
  have hr2 : ∀ v ∈ vR o :: st, rg n v := fun v hv => hrS v (List.mem_append_right _ hv)
  have hMet := hC B ⟨rcons (rh hr2) hr1, hM, hSH, hW⟩
  have hpre : ∀ U : State, U.heap = H → s.WarmedH U.vm → Wd (gX (p, l, e, R, s, m, args, below, meth, c, A, D, cA, f, nL)) B n M U := fun U hU hWm => ⟨by rw [hU]; exact hP, va_K.moved hWm.alike hK, SF.go hSF hS hWm hU, fun q hq => hA q (Nat.le_trans hS.1 (by rw [← hU]; exact hq))⟩
  have hsm : ((st.map (cv B)).map fun v => v.category).sum ≤ 8 := by
    have e : (st.map (cv B)).map (fun v => v.category) = st.map ct := by rw [List.map_map]; exact List.map_congr_left (fun v _ => cv_ct B v)
    rw [e]; exact hst
  have hfr : dc + 1 ≤ R.frames ∧ 8 + (maxL + 11) + 60 * dc ≤ R.locals := ⟨Nat.le_trans hdc hdf0, by omega⟩
  refine va_callv (A0 := A) (A1 := A) (va_runI (As := as.map (cv B)) (rest := st.map (cv B)) (n := as.length) ⟨hx, hb, hmL, hown, hts⟩ hMet (cwI as.length hts (TB_in (TBy hMW)) rfl rfl rfl (hts _ hMW.2) (hts _ hml) (hts _ hin) hy1 ⟨hy.1, hy.2, hn⟩ hfr) ⟨Wd.blind, fun U hU hWm => ⟨rfl, hpre U hU hWm⟩⟩ rfl (by simp) hl.1 (by simp [F0, cv]) (lv_room hsm) hd hk) hS (fun q _ h => h) (fun q h => h) (fun B' t H1 locs1 ht hvm hp hB hz hkp hS1 => ?_)
  obtain ⟨hag, hWB, hM1⟩ := hp
  rw [ht] at hB
  have K := kk B' hag (fun x hx => rg_up hnn (hrL x hx)) (fun x hx => rg_up hnn (rt hr2 x hx)) hM1 (fun z => by rw [hf] at z; cases z) hWB H1 locs1 ls hB hS1 (by rw [lm_up hag hrL]; exact hl)
  rw [sm_up hag (rt hr2)] at K
  exact K
theorem j_callCN (hX : Ctx X cc own d) (hf : (gX X).2.2.2.2 = false) {host : String} (hMW : MW y ccy maxL none) (hin : Cond.instanceMethod y ∈ TB) (hnw : ∀ {U : State} {H : Heap} {A : Nat → Prop}, SF A U H → va_Nw (.methodLinkNest own ix y host) U) (hy1 : y.name = "<init>") (hy : y.cls ≠ "java/lang/invoke/MethodHandle" ∧ y.cls ≠ "java/lang/invoke/VarHandle") (hdc : dc + 1 ≤ d) (hmx : maxL ≤ 41) (hk : k2 + mc ≤ X.2.2.2.1.cells ∧ k3 + ms ≤ X.2.2.2.1.slots) (hd : decode cc pc = .ok (.invokespecial ix, 3)) (hnn : n ≤ n') (hC : CnC (gX X) n n' mc ms y ccy maxL dc (vR o :: as) M M') (hn : (parseMethodDescriptor y.desc).map (fun d => d.parameters.length) = some as.length) (hs : stk' = as.reverse ++ vR o :: st) (hst : (st.map ct).sum ≤ 8) (kk : ∀ B', (∀ i, i < n → B' i = B i) → JW X B' n' (k2 + mc) (k3 + ms) (pc + 3) L st M' Q) : JW X B n k2 k3 pc L stk' M Q := by
  subst hs
  obtain ⟨p, l, e, R, s, m, args, below, meth, c, A, D, cA, f, nL⟩ := X
  obtain ⟨hx, hb, hmL, hown, hts, hK, hA, hSF, hdf0, hdl⟩ := hX
  have hk : k2 + mc ≤ R.cells ∧ k3 + ms ≤ R.slots := hk
  have hf : f = false := hf
  intro hrL hrS hM hSH hW H locs ls hP hS hl
  have hr1 : ∀ v ∈ as, rg n v := fun v hv => hrS v (List.mem_append_left _ (List.mem_reverse.mpr hv))
  have hr2 : ∀ v ∈ vR o :: st, rg n v := fun v hv => hrS v (List.mem_append_right _ hv)
  have hMet := hC B ⟨rcons (rh hr2) hr1, hM, hSH, hW⟩
  have hpre : ∀ U : State, U.heap = H → s.WarmedH U.vm → Wd (gX (p, l, e, R, s, m, args, below, meth, c, A, D, cA, f, nL)) B n M U := fun U hU hWm => ⟨by rw [hU]; exact hP, va_K.moved hWm.alike hK, SF.go hSF hS hWm hU, fun q hq => hA q (Nat.le_trans hS.1 (by rw [← hU]; exact hq))⟩
  have hsm : ((st.map (cv B)).map fun v => v.category).sum ≤ 8 := by
    have e : (st.map (cv B)).map (fun v => v.category) = st.map ct := by rw [List.map_map]; exact List.map_congr_left (fun v _ => cv_ct B v)
    rw [e]; exact hst
  have hfr : dc + 1 ≤ R.frames ∧ 8 + (maxL + 11) + 60 * dc ≤ R.locals := ⟨Nat.le_trans hdc hdf0, by omega⟩
  refine va_callv (A0 := A) (A1 := A) (va_runIN (As := as.map (cv B)) (rest := st.map (cv B)) (n := as.length) ⟨hx, hb, hmL, hown, hts⟩ hMet ⟨va_cnB as.length hts (TB_in (TBy hMW)) rfl rfl rfl (hnw hSF) (hts _ hMW.2) ⟨hy.1, hy.2, hn⟩ hfr, hy1, hts _ hin⟩ ⟨Wd.blind, fun U hU hWm => ⟨rfl, hpre U hU hWm⟩⟩ rfl (by simp) hl.1 (by simp [F0, cv]) (lv_room hsm) hd hk) hS (fun q _ h => h) (fun q h => h) (fun B' t H1 locs1 ht hvm hp hB hz hkp hS1 => ?_)
  obtain ⟨hag, hWB, hM1⟩ := hp
  rw [ht] at hB
  have K := kk B' hag (fun x hx => rg_up hnn (hrL x hx)) (fun x hx => rg_up hnn (rt hr2 x hx)) hM1 (fun z => by rw [hf] at z; cases z) hWB H1 locs1 ls hB hS1 (by rw [lm_up hag hrL]; exact hl)
  rw [sm_up hag (rt hr2)] at K
  exact K
end JCC
