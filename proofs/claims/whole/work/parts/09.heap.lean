/-! THE ROWS of the walk JW: cells, calls, returns -/
theorem inr_o {t : Nat} {v : Int} (h2 : t ≠ 2) (h3 : t ≠ 3) (h4 : t ≠ 4) : inr_ t v ↔ r32 v := by simp [inr_, h2, h3, h4]
theorem inr_32 {t : Nat} {v : Int} (h2 : t ≠ 2) (h : inr_ t v) : r32 v := by
  unfold inr_ at h
  rw [if_neg h2] at h
  unfold r32 at h ⊢
  split at h
  · omega
  · split at h
    · omega
    · exact h
theorem inr_0 {v : Int} : inr_ 0 v ↔ r32 v := by simp [inr_]
theorem inr_1 {v : Int} : inr_ 1 v ↔ r32 v := by simp [inr_]
theorem inr_64 {v : Int} : inr_ 2 v ↔ r64 v := by simp [inr_]
def fv (B : Nat → Nat) (M : Mem) (o : Nat) : Nat → Nat → Value := fun j d => if d = 2 then va_rf ((gR M o j).map B) else .int (Int32.ofInt (gI M o j))
theorem fs_sI {B : Nat → Nat} {M : Mem} {o k : Nat} {v : Int} {l : List Nat} (hk : l[k]? = some 0) : (l.mapIdx (fv B M o)).set k (.int (Int32.ofInt v)) = l.mapIdx (fv B (sI M o k v) o) := by
  apply List.ext_getElem?
  intro i
  by_cases hi : k = i
  · subst hi
    have hlt : k < l.length := (List.getElem?_eq_some_iff.mp hk).1
    rw [List.getElem?_set_self (by simpa using hlt), List.getElem?_mapIdx, hk]
    simp [fv, gI_sI]
  · rw [List.getElem?_set_ne hi, List.getElem?_mapIdx, List.getElem?_mapIdx]
    have hi' : ¬ i = k := fun q => hi q.symm
    have e : fv B M o i = fv B (sI M o k v) o i := by
      funext x
      unfold fv
      simp [gI_sI, gR_sI, hi']
    rw [e]
theorem fs_sR {B : Nat → Nat} {M : Mem} {o k a : Nat} {l : List Nat} (hk : l[k]? = some 2) : (l.mapIdx (fv B M o)).set k (.ref (B a)) = l.mapIdx (fv B (sR M o k (some a)) o) := by
  apply List.ext_getElem?
  intro i
  by_cases hi : k = i
  · subst hi
    have hlt : k < l.length := (List.getElem?_eq_some_iff.mp hk).1
    rw [List.getElem?_set_self (by simpa using hlt), List.getElem?_mapIdx, hk]
    simp [fv, gR_sR, va_rf]
  · rw [List.getElem?_set_ne hi, List.getElem?_mapIdx, List.getElem?_mapIdx]
    have hi' : ¬ i = k := fun q => hi q.symm
    have e : fv B M o i = fv B (sR M o k (some a)) o i := by
      funext x
      unfold fv
      simp [gI_sR, gR_sR, hi']
    rw [e]
theorem ce_o {cA : Nat → ClassId} {B : Nat → Nat} {M : Mem} {k ci : Nat} (h : tyc k = (0, ci)) : ce cA B M k = .inr (ci, (fk ci).mapIdx (fv B M k)) := ce_obj h
theorem arr_sI {cA : Nat → ClassId} {B : Nat → Nat} {M : Mem} {a t N k : Nat} {v : Int} (h : tyc a = (t, N)) (h0 : t ≠ 0) (h2 : t ≠ 2) (h5 : ¬ 5 ≤ t) : ce cA B (sI M a k v) a = .inl (cA t, N, .inl (upd (fun j => Int32.ofInt (gI M a j)) k (Int32.ofInt v))) := by
  rw [ce_int h h0 h2 h5]
  have e : (fun j => Int32.ofInt (gI (sI M a k v) a j)) = upd (fun j => Int32.ofInt (gI M a j)) k (Int32.ofInt v) := by
    funext j
    unfold upd
    by_cases hj : j = k <;> simp [gI_sI, hj]
  rw [e]
theorem arr_sL {cA : Nat → ClassId} {B : Nat → Nat} {M : Mem} {a N k : Nat} {v : Int} (h : tyc a = (2, N)) : ce cA B (sI M a k v) a = .inl (cA 2, N, .inr (.inl (vp_updL (fun j => Int64.ofInt (gI M a j)) k (Int64.ofInt v)))) := by
  rw [ce_long h]
  have e : (fun j => Int64.ofInt (gI (sI M a k v) a j)) = vp_updL (fun j => Int64.ofInt (gI M a j)) k (Int64.ofInt v) := by
    funext j
    unfold vp_updL
    by_cases hj : j = k <;> simp [gI_sI, hj]
  rw [e]
def ldk (S : Mem) (a N : Nat) (i : Int) : Option Int := if 0 ≤ i ∧ i < N then some (gI S a i.toNat) else none
def stk (S : Mem) (a N : Nat) (i v : Int) : Option Mem := if 0 ≤ i ∧ i < N then some (sI S a i.toNat v) else none
def ldr (S : Mem) (a N : Nat) (i : Int) : Option Nat := if 0 ≤ i ∧ i < N then gR S a i.toNat else none
def ldd (S : Mem) (t a : Nat) (i : Int) : Option Int := if (tyc a).1 = t ∧ a < 56 ∧ 0 ≤ i ∧ i < (tyc a).2 then some (gI S a i.toNat) else none
def std (S : Mem) (t a : Nat) (i v : Int) : Option Mem := if (tyc a).1 = t ∧ a < 56 ∧ 0 ≤ i ∧ i < (tyc a).2 then some (sI S a i.toNat v) else none
def lnd (t a : Nat) : Option Int := if (tyc a).1 = t ∧ (tyc a).2 < 100000 then some ((tyc a).2 : Int) else none
def ldc (q : Nat) (i : Int) : Option Int := if 0 ≤ i ∧ i < (sfC q).2.2.length then some ((sfC q).2.2.getD i.toNat 0) else none
theorem ldk_s {S : Mem} {a N : Nat} {i v : Int} (h : ldk S a N i = some v) : (0 ≤ i ∧ i < N) ∧ v = gI S a i.toNat := by
  unfold ldk at h
  by_cases q : 0 ≤ i ∧ i < N
  · rw [if_pos q] at h; exact ⟨q, (Option.some.inj h).symm⟩
  · rw [if_neg q] at h; cases h
theorem stk_s {S S' : Mem} {a N : Nat} {i v : Int} (h : stk S a N i v = some S') : (0 ≤ i ∧ i < N) ∧ S' = sI S a i.toNat v := by
  unfold stk at h
  by_cases q : 0 ≤ i ∧ i < N
  · rw [if_pos q] at h; exact ⟨q, (Option.some.inj h).symm⟩
  · rw [if_neg q] at h; cases h
theorem ldd_k {S : Mem} {t a : Nat} {i v : Int} (h : ldd S t a i = some v) : tyc a = (t, (tyc a).2) ∧ a < 56 ∧ ldk S a (tyc a).2 i = some v := by
  unfold ldd at h
  split at h
  · next q => exact ⟨Prod.ext q.1 rfl, q.2.1, by unfold ldk; rw [if_pos q.2.2]; exact h⟩
  · cases h
theorem std_k {S S' : Mem} {t a : Nat} {i v : Int} (h : std S t a i v = some S') : tyc a = (t, (tyc a).2) ∧ a < 56 ∧ stk S a (tyc a).2 i v = some S' := by
  unfold std at h
  split at h
  · next q => exact ⟨Prod.ext q.1 rfl, q.2.1, by unfold stk; rw [if_pos q.2.2]; exact h⟩
  · cases h
theorem q_nN {N : Nat} (h : N < 2147483648) : Int32.ofNat N = Int32.ofInt (N : Int) := q_eq (by
  rw [show (Int32.ofNat N).toInt = (N : Int) from nI_toInt (by omega), q_id (by unfold r32; omega)])
section JH
variable {X : K0} {cc : ByteArray} {own : String} {d : Nat} {B : Nat → Nat} {n k2 k3 pc : Nat} {L : List (Nat × AV)} {st : List AV} {M : Mem} {Q : State → Prop} {E : Mem → Mem} {P : Nat → Prop} {S : Mem}
variable {C : String} {F : u_T} {N ci : Nat} {t0 : Nat → FieldType} {ix o k : Nat} {nm ds : String}
theorem j_getI (hX : Ctx X cc own d) (hE : Lens E P) (hC : CB C F N ci t0) (ho : tyc o = (0, ci)) (hp : P o) (hk : k < N) (hf : (fk ci)[k]? = some 0) (hw : Cond.fieldLink own ix C nm ds ∈ TB) (hn : ((F k).2.1, (F k).2.2.1) = (nm, ds)) (hd : decode cc pc = .ok (.getfield ix, 3)) (kk : JW X B n k2 k3 (pc + 3) L (vI (gI S o k) :: st) (E S) Q) : JW X B n k2 k3 pc L (vR o :: st) (E S) Q := by
  obtain ⟨p, l, e, R, s, m, args, below, meth, c, A, D, cA, f, nL⟩ := X
  obtain ⟨hx, hb, hml, hown, hts, hK, hA, hSF, hdf, hdl⟩ := hX
  intro hrL hrS hM hSH hW H locs ls hP hS hl
  have e1 := congrArg Prod.fst hn
  have e2 := congrArg Prod.snd hn
  dsimp only at e1 e2
  subst e1
  subst e2
  show W p l e R s m args below meth c H locs k2 k3 Q (F0 m pc ls (.ref (B o) :: st.map (cv B)))
  have hon : o < n := rh hrS
  have hr : r32 (gI S o k) := by
    have h := hM.1 o k hon
    rw [ho, hE.1 S o k hp] at h
    exact inr_0.mp h
  exact va_get (v := .int (Int32.ofInt (gI S o k))) hx hb hts hC.1 hown hK hP o ((wN_get hon).trans (by rw [ce_o ho])) hC.2.1 k hk (hts _ hw) (fun x h => by rw [hC.2.2.2.2.2 k hk] at h; exact h) (by rw [List.getElem?_mapIdx, hf]; simp [fv, hE.1 S o k hp]) hd (kk hrL (rcons hr (rt hrS)) hM hSH hW H locs ls hP hS hl)
theorem j_getR (hX : Ctx X cc own d) (hE : Lens E P) (hC : CB C F N ci t0) (ho : tyc o = (0, ci)) (hp : P o) (hk : k < N) (hf : (fk ci)[k]? = some 2) (hw : Cond.fieldLink own ix C nm ds ∈ TB) (hn : ((F k).2.1, (F k).2.2.1) = (nm, ds)) {a : Nat} (hg : gR S o k = some a) (hd : decode cc pc = .ok (.getfield ix, 3)) (kk : JW X B n k2 k3 (pc + 3) L (vR a :: st) (E S) Q) : JW X B n k2 k3 pc L (vR o :: st) (E S) Q := by
  obtain ⟨p, l, e, R, s, m, args, below, meth, c, A, D, cA, f, nL⟩ := X
  obtain ⟨hx, hb, hml, hown, hts, hK, hA, hSF, hdf, hdl⟩ := hX
  intro hrL hrS hM hSH hW H locs ls hP hS hl
  have e1 := congrArg Prod.fst hn
  have e2 := congrArg Prod.snd hn
  dsimp only at e1 e2
  subst e1
  subst e2
  show W p l e R s m args below meth c H locs k2 k3 Q (F0 m pc ls (.ref (B o) :: st.map (cv B)))
  have hon : o < n := rh hrS
  have hr : a < n := hM.2 o k a hon (by rw [hE.2.1 S o k hp]; exact hg)
  exact va_get (v := .ref (B a)) hx hb hts hC.1 hown hK hP o ((wN_get hon).trans (by rw [ce_o ho])) hC.2.1 k hk (hts _ hw) (fun x h => by rw [hC.2.2.2.2.2 k hk] at h; exact h) (by rw [List.getElem?_mapIdx, hf]; simp [fv, hE.2.1 S o k hp, hg, va_rf]) hd (kk hrL (rcons (show rg n (vR a) from hr) (rt hrS)) hM hSH hW H locs ls hP hS hl)
theorem j_getS (hX : Ctx X cc own d) (hfl : (gX X).2.2.2.2 = true) (hC : CB C F N ci t0) (ho : tyc o = (0, ci)) (hk : k < N) (hf : (fk ci)[k]? = some 2) (hw : Cond.fieldLink own ix C nm ds ∈ TB) (hn : ((F k).2.1, (F k).2.2.1) = (nm, ds)) {a : Nat} (hs : (o, k, a) ∈ stab) (hd : decode cc pc = .ok (.getfield ix, 3)) (kk : JW X B n k2 k3 (pc + 3) L (vR a :: st) M Q) : JW X B n k2 k3 pc L (vR o :: st) M Q := by
  intro hrL hrS hM hSH
  refine j_getR (E := fun S => S) (P := fun _ => True) (S := M) hX (Lens.id _) hC ho trivial hk hf hw hn (a := a) ?_ hd kk hrL hrS hM hSH
  obtain ⟨p, l, e, R, s, m, args, below, meth, c, A, D, cA, f, nL⟩ := X
  exact hSH hfl (o, k, a) hs
theorem j_putI (hX : Ctx X cc own d) (hE : Lens E P) (hC : CB C F N ci t0) (ho : tyc o = (0, ci)) (hp : P o) (hk : k < N) (hf : (fk ci)[k]? = some 0) (hw : Cond.fieldLink own ix C nm ds ∈ TB) (hn : ((F k).2.1, (F k).2.2.1) = (nm, ds)) {v : Int} (hz : ds = "I" ∨ (ds = "Z" ∧ (v = 0 ∨ v = 1))) (hfin : (F k).2.2.2 = false) (hd : decode cc pc = .ok (.putfield ix, 3)) (kk : JW X B n k2 k3 (pc + 3) L st (E (sI S o k v)) Q) : JW X B n k2 k3 pc L (vI v :: vR o :: st) (E S) Q := by
  obtain ⟨p, l, e, R, s, m, args, below, meth, c, A, D, cA, f, nL⟩ := X
  obtain ⟨hx, hb, hml, hown, hts, hK, hA, hSF, hdf, hdl⟩ := hX
  intro hrL hrS hM hSH hW H locs ls hP hS hl
  have e1 := congrArg Prod.fst hn
  have e2 := congrArg Prod.snd hn
  dsimp only at e1 e2
  subst e1
  subst e2
  show W p l e R s m args below meth c H locs k2 k3 Q (F0 m pc ls (.int (Int32.ofInt v) :: .ref (B o) :: st.map (cv B)))
  have hon : o < n := rh (rt hrS)
  have hnr : narrow (t0 k) (.int (Int32.ofInt v)) = .int (Int32.ofInt v) ∧ fits (t0 k) (.int (Int32.ofInt v)) = true := by
    have hpd := hC.2.2.1 k hk
    rcases hz with hz | ⟨hz, hv⟩
    · rw [hz, show parseFieldDescriptor "I" = some .int from by decide +kernel] at hpd
      rw [← Option.some.inj hpd]
      exact ⟨rfl, rfl⟩
    · rw [hz, show parseFieldDescriptor "Z" = some .boolean from by decide +kernel] at hpd
      rw [← Option.some.inj hpd]
      rcases hv with rfl | rfl <;> exact ⟨by decide, by decide⟩
  obtain ⟨hnr, hft⟩ := hnr
  refine va_put hx hb hts hC.1 t0 hC.2.2.1 hC.2.2.2.1 hown hK hP (wN_D hW) hS o (fs := (fk ci).mapIdx (fv B (E S) o)) ((wN_get hon).trans (by rw [ce_o ho])) hC.2.1 k hk (hts _ hw) (fun x h => by rw [hC.2.2.2.2.2 k hk] at h; exact h) hfin (hC.2.2.1 k hk) hnr hft (by rw [List.length_mapIdx, hC.2.2.2.2.1]; exact hk) hd (fun H1 locs1 hP1 hD1 hS1 => ?_)
  rw [fs_sI hf, wN_set (M' := sI (E S) o k v) (by rw [ce_o ho]) (fun j hj => ce_sI hj), hE.2.2.1 S o k v hp] at hP1
  exact kk hrL (rt (rt hrS)) (by rw [← hE.2.2.1 S o k v hp]; exact MR_sI hM (by rw [ho]; exact inr_0.mpr (rh hrS))) (fun q => by rw [← hE.2.2.1 S o k v hp]; exact SH_sI (hSH q) o k v) hW H1 locs1 ls hP1 hS1 hl
theorem j_putR (hX : Ctx X cc own d) (hE : Lens E P) (hC : CB C F N ci t0) (ho : tyc o = (0, ci)) (hp : P o) (hk : k < N) (hf : (fk ci)[k]? = some 2) (hw : Cond.fieldLink own ix C nm ds ∈ TB) (hn : ((F k).2.1, (F k).2.2.1) = (nm, ds)) {a : Nat} (hnr : ∀ a, narrow (t0 k) (.ref a) = .ref a) (hft : ∀ a, fits (t0 k) (.ref a) = true) (hns : (gX X).2.2.2.2 = true → stab.all (fun q => !(q.1 == o && q.2.1 == k)) = true) (hfin : (F k).2.2.2 = false) (hd : decode cc pc = .ok (.putfield ix, 3)) (kk : JW X B n k2 k3 (pc + 3) L st (E (sR S o k (some a))) Q) : JW X B n k2 k3 pc L (vR a :: vR o :: st) (E S) Q := by
  obtain ⟨p, l, e, R, s, m, args, below, meth, c, A, D, cA, f, nL⟩ := X
  obtain ⟨hx, hb, hml, hown, hts, hK, hA, hSF, hdf, hdl⟩ := hX
  intro hrL hrS hM hSH hW H locs ls hP hS hl
  have e1 := congrArg Prod.fst hn
  have e2 := congrArg Prod.snd hn
  dsimp only at e1 e2
  subst e1
  subst e2
  show W p l e R s m args below meth c H locs k2 k3 Q (F0 m pc ls (.ref (B a) :: .ref (B o) :: st.map (cv B)))
  have hon : o < n := rh (rt hrS)
  have hnr := hnr (B a)
  have hft := hft (B a)
  refine va_put hx hb hts hC.1 t0 hC.2.2.1 hC.2.2.2.1 hown hK hP (wN_D hW) hS o (fs := (fk ci).mapIdx (fv B (E S) o)) ((wN_get hon).trans (by rw [ce_o ho])) hC.2.1 k hk (hts _ hw) (fun x h => by rw [hC.2.2.2.2.2 k hk] at h; exact h) hfin (hC.2.2.1 k hk) hnr hft (by rw [List.length_mapIdx, hC.2.2.2.2.1]; exact hk) hd (fun H1 locs1 hP1 hD1 hS1 => ?_)
  rw [fs_sR hf, wN_set (M' := sR (E S) o k (some a)) (by rw [ce_o ho]) (fun j hj => ce_sR hj), hE.2.2.2.1 S o k (some a) hp] at hP1
  exact kk hrL (rt (rt hrS)) (by rw [← hE.2.2.2.1 S o k (some a) hp]; exact MR_sR hM (fun b e => by cases e; exact rh hrS)) (fun q => by rw [← hE.2.2.2.1 S o k (some a) hp]; exact SH_sR (hSH q) (some a) (hns q)) hW H1 locs1 ls hP1 hS1 hl
theorem j_putIF (hX : Ctx X cc own d) (hE : Lens E P) (hC : CB C F N ci t0) (ho : tyc o = (0, ci)) (hp : P o) (hk : k < N) (hf : (fk ci)[k]? = some 0) (hw : Cond.fieldLink own ix C nm ds ∈ TB) (hn : ((F k).2.1, (F k).2.2.1) = (nm, ds)) {v : Int} (hz : ds = "I" ∨ (ds = "Z" ∧ (v = 0 ∨ v = 1))) (hfin : (F k).2.2.2 = true) (hin2 : X.2.2.2.2.2.2.2.2.1.name = "<init>") (hdecl : C = own) (hd : decode cc pc = .ok (.putfield ix, 3)) (kk : JW X B n k2 k3 (pc + 3) L st (E (sI S o k v)) Q) : JW X B n k2 k3 pc L (vI v :: vR o :: st) (E S) Q := by
  obtain ⟨p, l, e, R, s, m, args, below, meth, c, A, D, cA, f, nL⟩ := X
  obtain ⟨hx, hb, hml, hown, hts, hK, hA, hSF, hdf, hdl⟩ := hX
  intro hrL hrS hM hSH hW H locs ls hP hS hl
  have e1 := congrArg Prod.fst hn
  have e2 := congrArg Prod.snd hn
  dsimp only at e1 e2
  subst e1
  subst e2
  show W p l e R s m args below meth c H locs k2 k3 Q (F0 m pc ls (.int (Int32.ofInt v) :: .ref (B o) :: st.map (cv B)))
  have hon : o < n := rh (rt hrS)
  have hnr : narrow (t0 k) (.int (Int32.ofInt v)) = .int (Int32.ofInt v) ∧ fits (t0 k) (.int (Int32.ofInt v)) = true := by
    have hpd := hC.2.2.1 k hk
    rcases hz with hz | ⟨hz, hv⟩
    · rw [hz, show parseFieldDescriptor "I" = some .int from by decide +kernel] at hpd
      rw [← Option.some.inj hpd]
      exact ⟨rfl, rfl⟩
    · rw [hz, show parseFieldDescriptor "Z" = some .boolean from by decide +kernel] at hpd
      rw [← Option.some.inj hpd]
      rcases hv with rfl | rfl <;> exact ⟨by decide, by decide⟩
  obtain ⟨hnr, hft⟩ := hnr
  refine va_putF hx hb hts hC.1 t0 hC.2.2.1 hC.2.2.2.1 hown hK hP (wN_D hW) hS o (fs := (fk ci).mapIdx (fv B (E S) o)) ((wN_get hon).trans (by rw [ce_o ho])) hC.2.1 k hk (hts _ hw) (fun x h => by rw [hC.2.2.2.2.2 k hk] at h; exact h) hfin hin2 ((hC.2.2.2.2.2 k hk).trans hdecl) (hC.2.2.1 k hk) hnr hft (by rw [List.length_mapIdx, hC.2.2.2.2.1]; exact hk) hd (fun H1 locs1 hP1 hD1 hS1 => ?_)
  rw [fs_sI hf, wN_set (M' := sI (E S) o k v) (by rw [ce_o ho]) (fun j hj => ce_sI hj), hE.2.2.1 S o k v hp] at hP1
  exact kk hrL (rt (rt hrS)) (by rw [← hE.2.2.1 S o k v hp]; exact MR_sI hM (by rw [ho]; exact inr_0.mpr (rh hrS))) (fun q => by rw [← hE.2.2.1 S o k v hp]; exact SH_sI (hSH q) o k v) hW H1 locs1 ls hP1 hS1 hl
theorem j_putRF (hX : Ctx X cc own d) (hE : Lens E P) (hC : CB C F N ci t0) (ho : tyc o = (0, ci)) (hp : P o) (hk : k < N) (hf : (fk ci)[k]? = some 2) (hw : Cond.fieldLink own ix C nm ds ∈ TB) (hn : ((F k).2.1, (F k).2.2.1) = (nm, ds)) {a : Nat} (hnr : ∀ a, narrow (t0 k) (.ref a) = .ref a) (hft : ∀ a, fits (t0 k) (.ref a) = true) (hns : (gX X).2.2.2.2 = true → stab.all (fun q => !(q.1 == o && q.2.1 == k)) = true) (hfin : (F k).2.2.2 = true) (hin2 : X.2.2.2.2.2.2.2.2.1.name = "<init>") (hdecl : C = own) (hd : decode cc pc = .ok (.putfield ix, 3)) (kk : JW X B n k2 k3 (pc + 3) L st (E (sR S o k (some a))) Q) : JW X B n k2 k3 pc L (vR a :: vR o :: st) (E S) Q := by
  obtain ⟨p, l, e, R, s, m, args, below, meth, c, A, D, cA, f, nL⟩ := X
  obtain ⟨hx, hb, hml, hown, hts, hK, hA, hSF, hdf, hdl⟩ := hX
  intro hrL hrS hM hSH hW H locs ls hP hS hl
  have e1 := congrArg Prod.fst hn
  have e2 := congrArg Prod.snd hn
  dsimp only at e1 e2
  subst e1
  subst e2
  show W p l e R s m args below meth c H locs k2 k3 Q (F0 m pc ls (.ref (B a) :: .ref (B o) :: st.map (cv B)))
  have hon : o < n := rh (rt hrS)
  have hnr := hnr (B a)
  have hft := hft (B a)
  refine va_putF hx hb hts hC.1 t0 hC.2.2.1 hC.2.2.2.1 hown hK hP (wN_D hW) hS o (fs := (fk ci).mapIdx (fv B (E S) o)) ((wN_get hon).trans (by rw [ce_o ho])) hC.2.1 k hk (hts _ hw) (fun x h => by rw [hC.2.2.2.2.2 k hk] at h; exact h) hfin hin2 ((hC.2.2.2.2.2 k hk).trans hdecl) (hC.2.2.1 k hk) hnr hft (by rw [List.length_mapIdx, hC.2.2.2.2.1]; exact hk) hd (fun H1 locs1 hP1 hD1 hS1 => ?_)
  rw [fs_sR hf, wN_set (M' := sR (E S) o k (some a)) (by rw [ce_o ho]) (fun j hj => ce_sR hj), hE.2.2.2.1 S o k (some a) hp] at hP1
  exact kk hrL (rt (rt hrS)) (by rw [← hE.2.2.2.1 S o k (some a) hp]; exact MR_sR hM (fun b e => by cases e; exact rh hrS)) (fun q => by rw [← hE.2.2.2.1 S o k (some a) hp]; exact SH_sR (hSH q) (some a) (hns q)) hW H1 locs1 ls hP1 hS1 hl
theorem j_iald (hX : Ctx X cc own d) (hE : Lens E P) {a N : Nat} {i v : Int} (ha : tyc a = (1, N)) (hp : P a) (hv : ldk S a N i = some v) (hd : decode cc pc = .ok (.iaload, 1)) (kk : JW X B n k2 k3 (pc + 1) L (vI v :: st) (E S) Q) : JW X B n k2 k3 pc L (vI i :: vR a :: st) (E S) Q := by
  obtain ⟨p, l, e, R, s, m, args, below, meth, c, A, D, cA, f, nL⟩ := X
  obtain ⟨hx, hb, hml, hown, hts, hK, hA, hSF, hdf, hdl⟩ := hX
  intro hrL hrS hM hSH hW H locs ls hP hS hl
  show W p l e R s m args below meth c H locs k2 k3 Q (F0 m pc ls (.int (Int32.ofInt i) :: .ref (B a) :: st.map (cv B)))
  have han : a < n := rh (rt hrS)
  obtain ⟨hi, rfl⟩ := ldk_s hv
  have en := q_nat hi.1 (rh hrS)
  have hr := hM.1 a i.toNat han
  rw [ha, hE.1 S a i.toNat hp] at hr
  refine va_iald hx hb hK hP a 0 (n := N) ((wN_get han).trans (by rw [ce_int ha (by decide) (by decide) (by decide)])) rfl (q_in (rh hrS) hi.1 hi.2) hd ?_
  have E0 := kk hrL (rcons (show rg n (vI (gI S a i.toNat)) from inr_32 (t := 1) (by decide) hr) (rt (rt hrS))) hM hSH hW H locs ls hP hS hl
  have e2 : cv B (vI (gI S a i.toNat)) = .int (Int32.ofInt (gI (E S) a (Int32.ofInt i).toNatClampNeg)) := by rw [en, hE.1 S a i.toNat hp]; rfl
  rw [List.map_cons, e2] at E0
  exact E0
theorem j_ialdD (hX : Ctx X cc own d) (hE : Lens E P) (hp : ∀ a, a < 56 → P a) {a : Nat} {i v : Int} (hv : ldd S 1 a i = some v) (hd : decode cc pc = .ok (.iaload, 1)) (kk : JW X B n k2 k3 (pc + 1) L (vI v :: st) (E S) Q) : JW X B n k2 k3 pc L (vI i :: vR a :: st) (E S) Q := by
  obtain ⟨h1, h2, h3⟩ := ldd_k hv
  exact j_iald hX hE h1 (hp a h2) h3 hd kk
theorem j_lald (hX : Ctx X cc own d) (hE : Lens E P) {a N : Nat} {i v : Int} (ha : tyc a = (2, N)) (hp : P a) (hv : ldk S a N i = some v) (hd : decode cc pc = .ok (.laload, 1)) (kk : JW X B n k2 k3 (pc + 1) L (vL v :: st) (E S) Q) : JW X B n k2 k3 pc L (vI i :: vR a :: st) (E S) Q := by
  obtain ⟨p, l, e, R, s, m, args, below, meth, c, A, D, cA, f, nL⟩ := X
  obtain ⟨hx, hb, hml, hown, hts, hK, hA, hSF, hdf, hdl⟩ := hX
  intro hrL hrS hM hSH hW H locs ls hP hS hl
  show W p l e R s m args below meth c H locs k2 k3 Q (F0 m pc ls (.int (Int32.ofInt i) :: .ref (B a) :: st.map (cv B)))
  have han : a < n := rh (rt hrS)
  obtain ⟨hi, rfl⟩ := ldk_s hv
  have en := q_nat hi.1 (rh hrS)
  have hr := hM.1 a i.toNat han
  rw [ha, hE.1 S a i.toNat hp] at hr
  refine va_lald hx hb hK hP a 1 (n := N) ((wN_get han).trans (by rw [ce_long ha])) rfl (q_in (rh hrS) hi.1 hi.2) hd ?_
  have E0 := kk hrL (rcons (show rg n (vL (gI S a i.toNat)) from inr_64.mp hr) (rt (rt hrS))) hM hSH hW H locs ls hP hS hl
  have e2 : cv B (vL (gI S a i.toNat)) = .long (Int64.ofInt (gI (E S) a (Int32.ofInt i).toNatClampNeg)) := by rw [en, hE.1 S a i.toNat hp]; rfl
  rw [List.map_cons, e2] at E0
  exact E0
theorem j_laldD (hX : Ctx X cc own d) (hE : Lens E P) (hp : ∀ a, a < 56 → P a) {a : Nat} {i v : Int} (hv : ldd S 2 a i = some v) (hd : decode cc pc = .ok (.laload, 1)) (kk : JW X B n k2 k3 (pc + 1) L (vL v :: st) (E S) Q) : JW X B n k2 k3 pc L (vI i :: vR a :: st) (E S) Q := by
  obtain ⟨h1, h2, h3⟩ := ldd_k hv
  exact j_lald hX hE h1 (hp a h2) h3 hd kk
theorem j_bald (hX : Ctx X cc own d) (hE : Lens E P) {a N : Nat} {i v : Int} (ha : tyc a = (3, N)) (hp : P a) (hv : ldk S a N i = some v) (hd : decode cc pc = .ok (.baload, 1)) (kk : JW X B n k2 k3 (pc + 1) L (vI v :: st) (E S) Q) : JW X B n k2 k3 pc L (vI i :: vR a :: st) (E S) Q := by
  obtain ⟨p, l, e, R, s, m, args, below, meth, c, A, D, cA, f, nL⟩ := X
  obtain ⟨hx, hb, hml, hown, hts, hK, hA, hSF, hdf, hdl⟩ := hX
  intro hrL hrS hM hSH hW H locs ls hP hS hl
  show W p l e R s m args below meth c H locs k2 k3 Q (F0 m pc ls (.int (Int32.ofInt i) :: .ref (B a) :: st.map (cv B)))
  have han : a < n := rh (rt hrS)
  obtain ⟨hi, rfl⟩ := ldk_s hv
  have en := q_nat hi.1 (rh hrS)
  have hr := hM.1 a i.toNat han
  rw [ha, hE.1 S a i.toNat hp] at hr
  refine va_bald hx hb hK hP a 2 (n := N) ((wN_get han).trans (by rw [ce_int ha (by decide) (by decide) (by decide)])) rfl (q_in (rh hrS) hi.1 hi.2) hd ?_
  have E0 := kk hrL (rcons (show rg n (vI (gI S a i.toNat)) from inr_32 (t := 3) (by decide) hr) (rt (rt hrS))) hM hSH hW H locs ls hP hS hl
  have e2 : cv B (vI (gI S a i.toNat)) = .int (Int32.ofInt (gI (E S) a (Int32.ofInt i).toNatClampNeg)) := by rw [en, hE.1 S a i.toNat hp]; rfl
  rw [List.map_cons, e2] at E0
  exact E0
theorem j_baldD (hX : Ctx X cc own d) (hE : Lens E P) (hp : ∀ a, a < 56 → P a) {a : Nat} {i v : Int} (hv : ldd S 3 a i = some v) (hd : decode cc pc = .ok (.baload, 1)) (kk : JW X B n k2 k3 (pc + 1) L (vI v :: st) (E S) Q) : JW X B n k2 k3 pc L (vI i :: vR a :: st) (E S) Q := by
  obtain ⟨h1, h2, h3⟩ := ldd_k hv
  exact j_bald hX hE h1 (hp a h2) h3 hd kk
theorem j_sald (hX : Ctx X cc own d) (hE : Lens E P) {a N : Nat} {i v : Int} (ha : tyc a = (4, N)) (hp : P a) (hv : ldk S a N i = some v) (hd : decode cc pc = .ok (.saload, 1)) (kk : JW X B n k2 k3 (pc + 1) L (vI v :: st) (E S) Q) : JW X B n k2 k3 pc L (vI i :: vR a :: st) (E S) Q := by
  obtain ⟨p, l, e, R, s, m, args, below, meth, c, A, D, cA, f, nL⟩ := X
  obtain ⟨hx, hb, hml, hown, hts, hK, hA, hSF, hdf, hdl⟩ := hX
  intro hrL hrS hM hSH hW H locs ls hP hS hl
  show W p l e R s m args below meth c H locs k2 k3 Q (F0 m pc ls (.int (Int32.ofInt i) :: .ref (B a) :: st.map (cv B)))
  have han : a < n := rh (rt hrS)
  obtain ⟨hi, rfl⟩ := ldk_s hv
  have en := q_nat hi.1 (rh hrS)
  have hr := hM.1 a i.toNat han
  rw [ha, hE.1 S a i.toNat hp] at hr
  refine va_sald hx hb hK hP a 3 (n := N) ((wN_get han).trans (by rw [ce_int ha (by decide) (by decide) (by decide)])) rfl (q_in (rh hrS) hi.1 hi.2) hd ?_
  have E0 := kk hrL (rcons (show rg n (vI (gI S a i.toNat)) from inr_32 (t := 4) (by decide) hr) (rt (rt hrS))) hM hSH hW H locs ls hP hS hl
  have e2 : cv B (vI (gI S a i.toNat)) = .int (Int32.ofInt (gI (E S) a (Int32.ofInt i).toNatClampNeg)) := by rw [en, hE.1 S a i.toNat hp]; rfl
  rw [List.map_cons, e2] at E0
  exact E0
theorem j_saldD (hX : Ctx X cc own d) (hE : Lens E P) (hp : ∀ a, a < 56 → P a) {a : Nat} {i v : Int} (hv : ldd S 4 a i = some v) (hd : decode cc pc = .ok (.saload, 1)) (kk : JW X B n k2 k3 (pc + 1) L (vI v :: st) (E S) Q) : JW X B n k2 k3 pc L (vI i :: vR a :: st) (E S) Q := by
  obtain ⟨h1, h2, h3⟩ := ldd_k hv
  exact j_sald hX hE h1 (hp a h2) h3 hd kk
theorem j_iast (hX : Ctx X cc own d) (hE : Lens E P) {a N : Nat} {i v : Int} {S' : Mem} (ha : tyc a = (1, N)) (hp : P a) (hv : stk S a N i v = some S') (hd : decode cc pc = .ok (.iastore, 1)) (kk : JW X B n k2 k3 (pc + 1) L st (E S') Q) : JW X B n k2 k3 pc L (vI v :: vI i :: vR a :: st) (E S) Q := by
  obtain ⟨p, l, e, R, s, m, args, below, meth, c, A, D, cA, f, nL⟩ := X
  obtain ⟨hx, hb, hml, hown, hts, hK, hA, hSF, hdf, hdl⟩ := hX
  intro hrL hrS hM hSH hW H locs ls hP hS hl
  show W p l e R s m args below meth c H locs k2 k3 Q (F0 m pc ls (.int (Int32.ofInt v) :: .int (Int32.ofInt i) :: .ref (B a) :: st.map (cv B)))
  have han : a < n := rh (rt (rt hrS))
  obtain ⟨hi, rfl⟩ := stk_s hv
  have en := q_nat hi.1 (rh (rt hrS))
  refine va_iast hx hb hK hP (wN_D hW) hS a 0 (n := N) ((wN_get han).trans (by rw [ce_int ha (by decide) (by decide) (by decide)])) rfl (q_in (rh (rt hrS)) hi.1 hi.2) hd (fun H1 locs1 hP1 hD1 hS1 => ?_)
  rw [en] at hP1
  rw [wN_set (M' := sI (E S) a i.toNat v) (by rw [arr_sI ha (by decide) (by decide) (by decide)]) (fun j hj => ce_sI hj), hE.2.2.1 S a i.toNat v hp] at hP1
  exact kk hrL (rt (rt (rt hrS))) (by rw [← hE.2.2.1 S a i.toNat v hp]; exact MR_sI hM (by rw [ha]; exact inr_1.mpr (rh hrS))) (fun q => by rw [← hE.2.2.1 S a i.toNat v hp]; exact SH_sI (hSH q) _ _ _) hW H1 locs1 ls hP1 hS1 hl
theorem j_iastD (hX : Ctx X cc own d) (hE : Lens E P) (hp : ∀ a, a < 56 → P a) {a : Nat} {i v : Int} {S' : Mem} (hv : std S 1 a i v = some S') (hd : decode cc pc = .ok (.iastore, 1)) (kk : JW X B n k2 k3 (pc + 1) L st (E S') Q) : JW X B n k2 k3 pc L (vI v :: vI i :: vR a :: st) (E S) Q := by
  obtain ⟨h1, h2, h3⟩ := std_k hv
  exact j_iast hX hE h1 (hp a h2) h3 hd kk
theorem j_last (hX : Ctx X cc own d) (hE : Lens E P) {a N : Nat} {i v : Int} {S' : Mem} (ha : tyc a = (2, N)) (hp : P a) (hv : stk S a N i v = some S') (hd : decode cc pc = .ok (.lastore, 1)) (kk : JW X B n k2 k3 (pc + 1) L st (E S') Q) : JW X B n k2 k3 pc L (vL v :: vI i :: vR a :: st) (E S) Q := by
  obtain ⟨p, l, e, R, s, m, args, below, meth, c, A, D, cA, f, nL⟩ := X
  obtain ⟨hx, hb, hml, hown, hts, hK, hA, hSF, hdf, hdl⟩ := hX
  intro hrL hrS hM hSH hW H locs ls hP hS hl
  show W p l e R s m args below meth c H locs k2 k3 Q (F0 m pc ls (.long (Int64.ofInt v) :: .int (Int32.ofInt i) :: .ref (B a) :: st.map (cv B)))
  have han : a < n := rh (rt (rt hrS))
  obtain ⟨hi, rfl⟩ := stk_s hv
  have en := q_nat hi.1 (rh (rt hrS))
  refine va_last hx hb hK hP (wN_D hW) hS a 1 (n := N) ((wN_get han).trans (by rw [ce_long ha])) rfl (q_in (rh (rt hrS)) hi.1 hi.2) hd (fun H1 locs1 hP1 hD1 hS1 => ?_)
  rw [en] at hP1
  rw [wN_set (M' := sI (E S) a i.toNat v) (by rw [arr_sL ha]) (fun j hj => ce_sI hj), hE.2.2.1 S a i.toNat v hp] at hP1
  exact kk hrL (rt (rt (rt hrS))) (by rw [← hE.2.2.1 S a i.toNat v hp]; exact MR_sI hM (by rw [ha]; exact inr_64.mpr (rh hrS))) (fun q => by rw [← hE.2.2.1 S a i.toNat v hp]; exact SH_sI (hSH q) _ _ _) hW H1 locs1 ls hP1 hS1 hl
theorem j_lastD (hX : Ctx X cc own d) (hE : Lens E P) (hp : ∀ a, a < 56 → P a) {a : Nat} {i v : Int} {S' : Mem} (hv : std S 2 a i v = some S') (hd : decode cc pc = .ok (.lastore, 1)) (kk : JW X B n k2 k3 (pc + 1) L st (E S') Q) : JW X B n k2 k3 pc L (vL v :: vI i :: vR a :: st) (E S) Q := by
  obtain ⟨h1, h2, h3⟩ := std_k hv
  exact j_last hX hE h1 (hp a h2) h3 hd kk
theorem j_bast (hX : Ctx X cc own d) (hE : Lens E P) {a N : Nat} {i v : Int} {S' : Mem} (ha : tyc a = (3, N)) (hp : P a) (hv : stk S a N i (w8 v) = some S') (hd : decode cc pc = .ok (.bastore, 1)) (kk : JW X B n k2 k3 (pc + 1) L st (E S') Q) : JW X B n k2 k3 pc L (vI v :: vI i :: vR a :: st) (E S) Q := by
  obtain ⟨p, l, e, R, s, m, args, below, meth, c, A, D, cA, f, nL⟩ := X
  obtain ⟨hx, hb, hml, hown, hts, hK, hA, hSF, hdf, hdl⟩ := hX
  intro hrL hrS hM hSH hW H locs ls hP hS hl
  show W p l e R s m args below meth c H locs k2 k3 Q (F0 m pc ls (.int (Int32.ofInt v) :: .int (Int32.ofInt i) :: .ref (B a) :: st.map (cv B)))
  have han : a < n := rh (rt (rt hrS))
  obtain ⟨hi, rfl⟩ := stk_s hv
  have en := q_nat hi.1 (rh (rt hrS))
  refine va_bast hx hb hK hP (wN_D hW) hS a 2 (n := N) ((wN_get han).trans (by rw [ce_int ha (by decide) (by decide) (by decide)])) rfl (q_in (rh (rt hrS)) hi.1 hi.2) hd (fun H1 locs1 hP1 hD1 hS1 => ?_)
  rw [en] at hP1
  rw [show vp_nar .byte (Int32.ofInt v) = Int32.ofInt (w8 v) from by rw [vp_nar_byte]; exact q_eq (by rw [q_i8 (Int32.ofInt v), q_bm8, q_id (rh hrS), q_id (w8_r _)])] at hP1
  rw [wN_set (M' := sI (E S) a i.toNat (w8 v)) (by rw [arr_sI ha (by decide) (by decide) (by decide)]) (fun j hj => ce_sI hj), hE.2.2.1 S a i.toNat (w8 v) hp] at hP1
  exact kk hrL (rt (rt (rt hrS))) (by rw [← hE.2.2.1 S a i.toNat (w8 v) hp]; exact MR_sI hM (by rw [ha]; exact (by unfold inr_ w8; simp; omega))) (fun q => by rw [← hE.2.2.1 S a i.toNat (w8 v) hp]; exact SH_sI (hSH q) _ _ _) hW H1 locs1 ls hP1 hS1 hl
theorem j_bastD (hX : Ctx X cc own d) (hE : Lens E P) (hp : ∀ a, a < 56 → P a) {a : Nat} {i v : Int} {S' : Mem} (hv : std S 3 a i (w8 v) = some S') (hd : decode cc pc = .ok (.bastore, 1)) (kk : JW X B n k2 k3 (pc + 1) L st (E S') Q) : JW X B n k2 k3 pc L (vI v :: vI i :: vR a :: st) (E S) Q := by
  obtain ⟨h1, h2, h3⟩ := std_k hv
  exact j_bast hX hE h1 (hp a h2) h3 hd kk
theorem j_sast (hX : Ctx X cc own d) (hE : Lens E P) {a N : Nat} {i v : Int} {S' : Mem} (ha : tyc a = (4, N)) (hp : P a) (hv : stk S a N i (w16 v) = some S') (hd : decode cc pc = .ok (.sastore, 1)) (kk : JW X B n k2 k3 (pc + 1) L st (E S') Q) : JW X B n k2 k3 pc L (vI v :: vI i :: vR a :: st) (E S) Q := by
  obtain ⟨p, l, e, R, s, m, args, below, meth, c, A, D, cA, f, nL⟩ := X
  obtain ⟨hx, hb, hml, hown, hts, hK, hA, hSF, hdf, hdl⟩ := hX
  intro hrL hrS hM hSH hW H locs ls hP hS hl
  show W p l e R s m args below meth c H locs k2 k3 Q (F0 m pc ls (.int (Int32.ofInt v) :: .int (Int32.ofInt i) :: .ref (B a) :: st.map (cv B)))
  have han : a < n := rh (rt (rt hrS))
  obtain ⟨hi, rfl⟩ := stk_s hv
  have en := q_nat hi.1 (rh (rt hrS))
  refine va_sast hx hb hK hP (wN_D hW) hS a 3 (n := N) ((wN_get han).trans (by rw [ce_int ha (by decide) (by decide) (by decide)])) rfl (q_in (rh (rt hrS)) hi.1 hi.2) hd (fun H1 locs1 hP1 hD1 hS1 => ?_)
  rw [en] at hP1
  rw [show vp_nar .short (Int32.ofInt v) = Int32.ofInt (w16 v) from by rw [vp_nar_short]; exact q_eq (by rw [q_i16 (Int32.ofInt v), q_bm16, q_id (rh hrS), q_id (w16_r _)])] at hP1
  rw [wN_set (M' := sI (E S) a i.toNat (w16 v)) (by rw [arr_sI ha (by decide) (by decide) (by decide)]) (fun j hj => ce_sI hj), hE.2.2.1 S a i.toNat (w16 v) hp] at hP1
  exact kk hrL (rt (rt (rt hrS))) (by rw [← hE.2.2.1 S a i.toNat (w16 v) hp]; exact MR_sI hM (by rw [ha]; exact (by unfold inr_ w16; simp; omega))) (fun q => by rw [← hE.2.2.1 S a i.toNat (w16 v) hp]; exact SH_sI (hSH q) _ _ _) hW H1 locs1 ls hP1 hS1 hl
theorem j_sastD (hX : Ctx X cc own d) (hE : Lens E P) (hp : ∀ a, a < 56 → P a) {a : Nat} {i v : Int} {S' : Mem} (hv : std S 4 a i (w16 v) = some S') (hd : decode cc pc = .ok (.sastore, 1)) (kk : JW X B n k2 k3 (pc + 1) L st (E S') Q) : JW X B n k2 k3 pc L (vI v :: vI i :: vR a :: st) (E S) Q := by
  obtain ⟨h1, h2, h3⟩ := std_k hv
  exact j_sast hX hE h1 (hp a h2) h3 hd kk
theorem j_aald (hX : Ctx X cc own d) (hE : Lens E P) {a t N : Nat} {i : Int} {v : Nat} (ha : tyc a = (t, N)) (ht : t = 5 ∨ t = 6) (hp : P a) (hv : ldr S a N i = some v) (hd : decode cc pc = .ok (.aaload, 1)) (kk : JW X B n k2 k3 (pc + 1) L (vR v :: st) (E S) Q) : JW X B n k2 k3 pc L (vI i :: vR a :: st) (E S) Q := by
  obtain ⟨p, l, e, R, s, m, args, below, meth, c, A, D, cA, f, nL⟩ := X
  obtain ⟨hx, hb, hml, hown, hts, hK, hA, hSF, hdf, hdl⟩ := hX
  intro hrL hrS hM hSH hW H locs ls hP hS hl
  show W p l e R s m args below meth c H locs k2 k3 Q (F0 m pc ls (.int (Int32.ofInt i) :: .ref (B a) :: st.map (cv B)))
  have han : a < n := rh (rt hrS)
  have hi : (0 ≤ i ∧ i < N) ∧ gR S a i.toNat = some v := by
    unfold ldr at hv
    split at hv
    · next q => exact ⟨q, hv⟩
    · cases hv
  obtain ⟨hi, hg⟩ := hi
  have en := q_nat hi.1 (rh hrS)
  have hr : v < n := hM.2 a i.toNat v han (by rw [hE.2.1 S a i.toNat hp]; exact hg)
  have hin := q_in (N := N) (rh hrS) hi.1 hi.2
  have hlt : (Int32.ofInt i).toNatClampNeg < N := Nat.not_le.mp fun q => hin (Or.inr q)
  have E0 := kk hrL (rcons (show rg n (vR v) from hr) (rt (rt hrS))) hM hSH hW H locs ls hP hS hl
  have hw : (wN n cA B (E S))[a]? = some (B a, .inl (cA t, N, .inr (.inr (.inr (.inr fun j => (gR (E S) a j).map B))))) := (wN_get han).trans (by rw [ce_ref ha (by omega)])
  have hrd : va_rf ((gR (E S) a (Int32.ofInt i).toNatClampNeg).map B) = .ref (B v) := by rw [en, hE.2.1 S a i.toNat hp, hg]; rfl
  have key : ∀ ft, (tysOf cA)[t - 1]? = some (cA t, .array ft) → W p l e R s m args below meth c H locs k2 k3 Q (F0 m pc ls (.int (Int32.ofInt i) :: .ref (B a) :: st.map (cv B))) := by
    intro ft hft
    exact W.aald (v := .ref (B v)) (ty := .array ft) hx hb (hP a _ hw) ((hK.2 (t - 1) _ hft).1 N (fun j => va_rf ((gR (E S) a j).map B))) rfl (fun q => by cases q) (by show ¬ (_ < 0 ∨ (arrV _ _ _).slots.size ≤ _); rw [arrV_size]; exact hin) (by show (arrV _ _ _).slots[_]? = _; rw [arrV_read _ _ hlt, hrd]) rfl rfl hd E0
  rcases ht with rfl | rfl
  · exact key .int rfl
  · exact key .long rfl
theorem j_alen (hX : Ctx X cc own d) {a t N : Nat} {z : Int} (ha : tyc a = (t, N)) (hN : N < 100000) (ht : t = 1 ∨ t = 2) (hz : (N : Int) = z) (hd : decode cc pc = .ok (.arraylength, 1)) (kk : JW X B n k2 k3 (pc + 1) L (vI z :: st) M Q) : JW X B n k2 k3 pc L (vR a :: st) M Q := by
  obtain ⟨p, l, e, R, s, m, args, below, meth, c, A, D, cA, f, nL⟩ := X
  obtain ⟨hx, hb, hml, hown, hts, hK, hA, hSF, hdf, hdl⟩ := hX
  intro hrL hrS hM hSH hW H locs ls hP hS hl
  show W p l e R s m args below meth c H locs k2 k3 Q (F0 m pc ls (.ref (B a) :: st.map (cv B)))
  subst hz
  have han : a < n := rh hrS
  have E0 := kk hrL (rcons (show rg n (vI (N : Int)) from by show r32 _; unfold r32; omega) (rt hrS)) hM hSH hW H locs ls hP hS hl
  rcases ht with rfl | rfl
  · exact va_alen (x := (N, .inl fun j => Int32.ofInt (gI M a j))) hx hb hK hP a 0 ((wN_get han).trans (by rw [ce_int ha (by decide) (by decide) (by decide)])) rfl (q_nN (by omega)) hd E0
  · exact va_alen (x := (N, .inr (.inl fun j => Int64.ofInt (gI M a j)))) hx hb hK hP a 1 ((wN_get han).trans (by rw [ce_long ha])) rfl (q_nN (by omega)) hd E0
theorem j_alenD (hX : Ctx X cc own d) {a t : Nat} {v : Int} (ht : t = 1 ∨ t = 2) (hv : lnd t a = some v) (hd : decode cc pc = .ok (.arraylength, 1)) (kk : JW X B n k2 k3 (pc + 1) L (vI v :: st) M Q) : JW X B n k2 k3 pc L (vR a :: st) M Q := by
  unfold lnd at hv
  split at hv
  · next q =>
    cases hv
    exact j_alen hX (Prod.ext q.1 rfl) q.2 ht rfl hd kk
  · cases hv
/-- a static array's address -/
def ST (X : K0) (q t : Nat) : Prop := match X with
  | (p, l, e, R, s, m, args, below, meth, c, A, D, cA, f, nL) => va_T .int t (sfC q).2.2.length (fun j => .int (Int32.ofInt ((sfC q).2.2.getD j 0))) A s s.heap
theorem j_gst (hX : Ctx X cc own d) {q : Nat} (hq : q < 3) {C nm : String} (hC : ((sfC q).1, (sfC q).2.1) = (C, nm)) (hw : Cond.fieldLink own ix C nm "[I" ∈ TB) (hd : decode cc pc = .ok (.getstatic ix, 3)) (kk : ∀ t, ST X q t → JW X B n k2 k3 (pc + 3) L (vX (.ref t) :: st) M Q) : JW X B n k2 k3 pc L st M Q := by
  obtain ⟨p, l, e, R, s, m, args, below, meth, c, A, D, cA, f, nL⟩ := X
  obtain ⟨hx, hb, hml, hown, hts, hK, hA, hSF, hdf, hdl⟩ := hX
  intro hrL hrS hM hSH hW H locs ls hP hS hl
  have e1 := congrArg Prod.fst hC
  have e2 := congrArg Prod.snd hC
  dsimp only at e1 e2
  subst e1
  subst e2
  obtain ⟨t, hZ, hT⟩ := hSF.1 q hq
  exact va_gets hx hb hZ hS hown (hts _ hw) (fun x h => h) hd (kk t hT hrL (rcons trivial hrS) hM hSH hW H locs ls hP hS hl)
theorem j_ialdS (hX : Ctx X cc own d) {q t : Nat} {i v : Int} (hq : q < 3) (hT : ST X q t) (hv : ldc q i = some v) (hd : decode cc pc = .ok (.iaload, 1)) (kk : JW X B n k2 k3 (pc + 1) L (vI v :: st) M Q) : JW X B n k2 k3 pc L (vI i :: vX (.ref t) :: st) M Q := by
  obtain ⟨p, l, e, R, s, m, args, below, meth, c, A, D, cA, f, nL⟩ := X
  obtain ⟨hx, hb, hml, hown, hts, hK, hA, hSF, hdf, hdl⟩ := hX
  intro hrL hrS hM hSH hW H locs ls hP hS hl
  show W p l e R s m args below meth c H locs k2 k3 Q (F0 m pc ls (.int (Int32.ofInt i) :: .ref t :: st.map (cv B)))
  have hi : (0 ≤ i ∧ i < (sfC q).2.2.length) ∧ v = (sfC q).2.2.getD i.toNat 0 := by
    unfold ldc at hv
    split at hv
    · next z => exact ⟨z, (Option.some.inj hv).symm⟩
    · cases hv
  obtain ⟨hi, rfl⟩ := hi
  have en := q_nat hi.1 (rh hrS)
  have hr : r32 ((sfC q).2.2.getD i.toNat 0) := by
    have key : ∀ q, q < 3 → ∀ j, j < 10 → -1000 ≤ (sfC q).2.2.getD j 0 ∧ (sfC q).2.2.getD j 0 ≤ 1000 := by decide +kernel
    have hl3 : ∀ q, q < 3 → (sfC q).2.2.length ≤ 10 := by decide +kernel
    have h1 := key q hq i.toNat (by have := hl3 q hq; omega)
    unfold r32
    omega
  exact va_ti hx hb hT hS (q_in (rh hrS) hi.1 hi.2) (by rw [en]; rfl) hd (kk hrL (rcons hr (rt (rt hrS))) hM hSH hW H locs ls hP hS hl)
end JH
-- CONTRACTS
def rmD (d : Nat) : Room := { frames := d, cells := 0, slots := 0, locals := 60 * d }
def Wd (g : G0) (B : Nat → Nat) (n : Nat) (M : Mem) (U : State) : Prop := va_P g.2.2.1 cl (wN n g.2.2.2.1 B M) U.heap ∧ va_K g.2.2.1 cl (tysOf g.2.2.2.1) U ∧ SF g.2.1 U U.heap ∧ ∀ q, U.heap.size ≤ q → g.2.1 q
def PreM (g : G0) (B : Nat → Nat) (n : Nat) (a : List AV) (M : Mem) : Prop := (∀ v ∈ a, rg n v) ∧ MR n M ∧ (g.2.2.2.2 = true → SH M) ∧ WB n B g.2.1
def QcI (g : G0) (B : Nat → Nat) (n : Nat) (r : Int) (M' : Mem) : Array Value → State → Outcome → State → Prop := va_Qi (fun (r' : Int32) (_ : Unit) => r' = Int32.ofInt r ∧ r32 r ∧ MR n M' ∧ (g.2.2.2.2 = true → SH M')) (fun _ t => va_P g.2.2.1 cl (wN n g.2.2.2.1 B M') t.heap) g.2.1
def QcL (g : G0) (B : Nat → Nat) (n : Nat) (r : Int) (M' : Mem) : Array Value → State → Outcome → State → Prop := va_Ql (fun (r' : Int64) (_ : Unit) => r' = Int64.ofInt r ∧ r64 r ∧ MR n M' ∧ (g.2.2.2.2 = true → SH M')) (fun _ t => va_P g.2.2.1 cl (wN n g.2.2.2.1 B M') t.heap) g.2.1
def QcV (g : G0) (B : Nat → Nat) (n : Nat) (M' : Mem) : Array Value → State → Outcome → State → Prop := va_Qv (fun (_ : Unit) => MR n M' ∧ (g.2.2.2.2 = true → SH M')) (fun _ t => va_P g.2.2.1 cl (wN n g.2.2.2.1 B M') t.heap) g.2.1
def Cn (g : G0) (B : Nat → Nat) (n : Nat) (y : MethodName) (cc : ByteArray) (maxL : Nat) (ret : Option FieldType) (d : Nat) (a : List AV) (M : Mem) (Qc : Array Value → State → Outcome → State → Prop) : Prop := PreM g B n a M → Met g.1 y (.code y cc maxL ret :: TB) (rmD d) (va_Pc (a.map (cv B)) (Wd g B n M)) Qc 0 0 g.2.1
def QM (X : K0) (Qc : Array Value → State → Outcome → State → Prop) : State → Prop := match X with
  | (p, l, e, R, s, m, args, below, meth, c, A, D, cA, f, nL) => MQ below Qc args s 0 0 A
def CR (X : K0) (ret : Option FieldType) : Prop := match X with
  | (p, l, e, R, s, m, args, below, meth, c, A, D, cA, f, nL) => meth.sig.returnType = ret ∧ meth.locks = false
def aL : Nat → List AV → List (Nat × AV)
  | _, [] => []
  | i, v :: vs => (i, v) :: aL (if ct v = 2 then i + 2 else i + 1) vs
theorem aL_lm (B : Nat → Nat) (a : List AV) : ∀ i, lv_args i (a.map (cv B)) = lm B (aL i a) := by
  induction a with
  | nil => intro i; rfl
  | cons v vs ih =>
    intro i
    show (i, cv B v) :: lv_args (if (cv B v).category = 2 then i + 2 else i + 1) (vs.map (cv B)) = (i, cv B v) :: lm B (aL (if ct v = 2 then i + 2 else i + 1) vs)
    rw [cv_ct, ih]
theorem aL_rg {n : Nat} {a : List AV} (h : ∀ v ∈ a, rg n v) : ∀ i, ∀ q ∈ aL i a, rg n q.2 := by
  induction a with
  | nil => intro i q hq; cases hq
  | cons v vs ih =>
    intro i q hq
    rcases List.mem_cons.mp hq with e | hq
    · rw [e]; exact h v List.mem_cons_self
    · exact ih (fun x hx => h x (List.mem_cons_of_mem _ hx)) _ q hq
theorem sl_len (B : Nat → Nat) (a : List AV) : (lg_sl (a.map (cv B))).length = (a.map fun v => if ct v = 2 then 2 else 1).sum := by
  induction a with
  | nil => rfl
  | cons v vs ih =>
    show ((if (cv B v).category = 2 then [Slot.val (cv B v), Slot.second] else [Slot.val (cv B v)]) ++ lg_sl (vs.map (cv B))).length = _
    rw [List.length_append, ih, List.map_cons, List.sum_cons, cv_ct]
    split <;> rfl
theorem Wd.blind {g : G0} {B : Nat → Nat} {n : Nat} {M : Mem} {av : List Value} : FrameBlind (va_Pc av (Wd g B n M)) := by
  intro a U fr mk q
  obtain ⟨q0, qP, qK, qF, qA⟩ := q
  exact ⟨q0, qP, va_K.moved (u := U) (U := U.calling fr mk a) (Vm.Alike.refl U.vm) qK, SF.call qF, qA⟩
/-- a contract out of a walk -/
theorem Cn.of {g : G0} {B : Nat → Nat} {n : Nat} {y : MethodName} {cc : ByteArray} {maxL : Nat} {ret : Option FieldType} {d : Nat} {a : List AV} {M : Mem} {Qc : Array Value → State → Outcome → State → Prop} (hy : plainName y.cls = true) (hsz : (a.map fun v => if ct v = 2 then 2 else 1).sum ≤ maxL) (k : ∀ X : K0, gX X = g → X.2.2.2.2.2.2.2.2.2.2.2.2.2.2 = maxL → Ctx X cc y.cls d → CR X ret → JW X B n 0 0 0 (aL 0 a) [] M (QM X Qc)) : Cn g B n y cc maxL ret d a M Qc := by
  intro hPre
  refine Met.ofW (cc := cc) (maxL := maxL) (ret := ret) hy rfl ?_
  intro p e s m args below meth c s₁ Bd hml hv
  obtain ⟨rfl, hP, hK, hSF, hA⟩ := hv
  have hts : ∀ w ∈ TB, w.before (a.map (cv B)).toArray s = true := fun w hw => atoms_spec (ws := .code y cc maxL ret :: TB) Bd.pre w (List.mem_cons_of_mem _ hw)
  have hown : s.vm.findClass y.cls = some m.cls := findClass_of_methodNamed Bd.named
  rw [lg_entry_eq]
  have hl := lv_entry (a.map (cv B)) (n := maxL) (by rw [sl_len]; exact hsz)
  rw [aL_lm] at hl
  exact k (p, g.1, e, (headSpec (.code y cc maxL ret :: TB) (rmD d)).room, s, m, (a.map (cv B)).toArray, below, meth, c, g.2.1, g.2.2.1, g.2.2.2.1, g.2.2.2.2, maxL) rfl rfl ⟨Bd.exec, Bd.bytes, hml, hown, hts, hK, hA, hSF, Nat.le_refl _, Nat.le_refl _⟩ ⟨Bd.returns, Bd.notSynchronized⟩ (aL_rg hPre.1 0) (fun v h => by cases h) hPre.2.1 hPre.2.2.1 hPre.2.2.2 s.heap [] _ hP va_S.rf hl
section JC
variable {X : K0} {cc : ByteArray} {own : String} {d : Nat} {B : Nat → Nat} {n k2 k3 pc : Nat} {L : List (Nat × AV)} {st stk' : List AV} {M M' : Mem} {Q : State → Prop}
variable {y : MethodName} {ccy : ByteArray} {maxL dc ix o ci N : Nat} {ret : Option FieldType} {as : List AV} {F : u_T} {t0 : Nat → FieldType} {r : Int}
theorem TBy {y : MethodName} {ccy : ByteArray} {maxL : Nat} {ret : Option FieldType} (h : MW y ccy maxL ret) : ∀ w ∈ Cond.code y ccy maxL ret :: TB, w ∈ TB := fun w hw => (List.mem_cons.mp hw).elim (fun e => e ▸ h.1) id
theorem j_callVI (hX : Ctx X cc own d) (hMW : MW y ccy maxL ret) (hMI : MI y) (hml : Cond.methodLink own ix y ∈ TB) (hCB : CB y.cls F N ci t0) (ho : tyc o = (0, ci)) (hy : y.cls ≠ "java/lang/invoke/MethodHandle" ∧ y.cls ≠ "java/lang/invoke/VarHandle") (hdc : dc + 1 ≤ d) (hmx : maxL ≤ 41) (hcs : k2 ≤ X.2.2.2.1.cells ∧ k3 ≤ X.2.2.2.1.slots) (hd : decode cc pc = .ok (.invokevirtual ix, 3)) (hC : Cn (gX X) B n y ccy maxL ret dc (vR o :: as) M (QcI (gX X) B n r M')) (hn : (parseMethodDescriptor y.desc).map (fun d => d.parameters.length) = some as.length) (hs : stk' = as.reverse ++ vR o :: st) (hst : (st.map ct).sum ≤ 8) (kk : JW X B n k2 k3 (pc + 3) L (vI r :: st) M' Q) : JW X B n k2 k3 pc L stk' M Q := by
  subst hs
  obtain ⟨p, l, e, R, s, m, args, below, meth, c, A, D, cA, f, nL⟩ := X
  obtain ⟨hx, hb, hmL, hown, hts, hK, hA, hSF, hdf, hdl⟩ := hX
  intro hrL hrS hM hSH hW H locs ls hP hS hl
  have hr1 : ∀ v ∈ as, rg n v := fun v hv => hrS v (List.mem_append_left _ (List.mem_reverse.mpr hv))
  have hr2 : ∀ v ∈ vR o :: st, rg n v := fun v hv => hrS v (List.mem_append_right _ hv)
  have hMet := hC ⟨rcons (rh hr2) hr1, hM, hSH, hW⟩
  have hpre : ∀ U : State, U.heap = H → s.WarmedH U.vm → Wd (gX (p, l, e, R, s, m, args, below, meth, c, A, D, cA, f, nL)) B n M U := fun U hU hWm => ⟨by rw [hU]; exact hP, va_K.moved hWm.alike hK, SF.go hSF hS hWm hU, fun q hq => hA q (Nat.le_trans hS.1 (by rw [← hU]; exact hq))⟩
  have hsm : ((st.map (cv B)).map fun v => v.category).sum ≤ 8 := by
    have e : (st.map (cv B)).map (fun v => v.category) = st.map ct := by rw [List.map_map]; exact List.map_congr_left (fun v _ => cv_ct B v)
    rw [e]; exact hst
  have hfr : (rmD dc).frames + 1 ≤ R.frames ∧ 8 + (maxL + 11) + (rmD dc).locals ≤ R.locals := ⟨Nat.le_trans hdc hdf, by show 8 + (maxL + 11) + 60 * dc ≤ R.locals; omega⟩
  have hon : o < n := rh hr2
  refine va_calli (A0 := A) (A1 := A) (va_runV (As := as.map (cv B)) (rest := st.map (cv B)) (C := y.cls) (n := as.length) (b := B o) ⟨hx, hb, hmL, hown, hts⟩ hMet (cwV as.length hts (TB_in (fun w hw => by rcases List.mem_append.mp hw with h | h; (· simp only [List.mem_cons, List.not_mem_nil, or_false] at h; rcases h with rfl | rfl | rfl | rfl; (· exact hml); (· exact hMI.1); (· exact hMI.2); (· exact hMW.2)); (· exact TBy hMW w h))) rfl rfl rfl ⟨rfl, hy.1, hy.2, hn⟩ hfr) ⟨Wd.blind, va_recv hK hP hCB.2.1 ((wN_get hon).trans (by rw [ce_o ho])), fun U hU hWm => ⟨rfl, hpre U hU hWm⟩⟩ rfl (by simp) hl.1 (by simp [F0, cv]) (lv_room hsm) hd ⟨hcs.1, hcs.2⟩) hS (fun q _ h => h) (fun q h => h) (fun r1 u1 t H1 locs1 ht hvm hp hB hz hkp hS1 => ?_)
  obtain ⟨rfl, hr, hM1, hSH1⟩ := hp
  rw [ht] at hB
  exact kk hrL (rcons (show rg n (vI r) from hr) (rt hr2)) hM1 hSH1 hW H1 locs1 ls hB hS1 hl
theorem j_callSI (hX : Ctx X cc own d) (hMW : MW y ccy maxL ret) (hMS : MS y) (hml : Cond.methodLink own ix y ∈ TB) (hy : y.cls ≠ "java/lang/invoke/MethodHandle" ∧ y.cls ≠ "java/lang/invoke/VarHandle") (hdc : dc + 1 ≤ d) (hmx : maxL ≤ 41) (hcs : k2 ≤ X.2.2.2.1.cells ∧ k3 ≤ X.2.2.2.1.slots) (hd : decode cc pc = .ok (.invokestatic ix, 3)) (hC : Cn (gX X) B n y ccy maxL ret dc (as) M (QcI (gX X) B n r M')) (hn : (parseMethodDescriptor y.desc).map (fun d => d.parameters.length) = some as.length) (hs : stk' = as.reverse ++ st) (hst : (st.map ct).sum ≤ 8) (kk : JW X B n k2 k3 (pc + 3) L (vI r :: st) M' Q) : JW X B n k2 k3 pc L stk' M Q := by
  subst hs
  obtain ⟨p, l, e, R, s, m, args, below, meth, c, A, D, cA, f, nL⟩ := X
  obtain ⟨hx, hb, hmL, hown, hts, hK, hA, hSF, hdf, hdl⟩ := hX
  intro hrL hrS hM hSH hW H locs ls hP hS hl
  have hr1 : ∀ v ∈ as, rg n v := fun v hv => hrS v (List.mem_append_left _ (List.mem_reverse.mpr hv))
  have hr2 : ∀ v ∈ st, rg n v := fun v hv => hrS v (List.mem_append_right _ hv)
  have hMet := hC ⟨hr1, hM, hSH, hW⟩
  have hpre : ∀ U : State, U.heap = H → s.WarmedH U.vm → Wd (gX (p, l, e, R, s, m, args, below, meth, c, A, D, cA, f, nL)) B n M U := fun U hU hWm => ⟨by rw [hU]; exact hP, va_K.moved hWm.alike hK, SF.go hSF hS hWm hU, fun q hq => hA q (Nat.le_trans hS.1 (by rw [← hU]; exact hq))⟩
  have hsm : ((st.map (cv B)).map fun v => v.category).sum ≤ 8 := by
    have e : (st.map (cv B)).map (fun v => v.category) = st.map ct := by rw [List.map_map]; exact List.map_congr_left (fun v _ => cv_ct B v)
    rw [e]; exact hst
  have hfr : (rmD dc).frames + 1 ≤ R.frames ∧ 8 + (maxL + 11) + (rmD dc).locals ≤ R.locals := ⟨Nat.le_trans hdc hdf, by show 8 + (maxL + 11) + 60 * dc ≤ R.locals; omega⟩
  refine va_calli (A0 := A) (A1 := A) (va_runS (As := as.map (cv B)) (rest := st.map (cv B)) (n := as.length) ⟨hx, hb, hmL, hown, hts⟩ hMet ⟨callB_of as.length hts (TB_in (TBy hMW)) rfl rfl rfl (hts _ hMW.2) (hts _ hml) ⟨hy.1, hy.2, hn⟩ hfr, hts _ hMS⟩ ⟨Wd.blind, fun U hU hWm => ⟨rfl, hpre U hU hWm⟩⟩ rfl (by simp) hl.1 (by simp [F0]) (lv_room hsm) hd ⟨hcs.1, hcs.2⟩) hS (fun q _ h => h) (fun q h => h) (fun r1 u1 t H1 locs1 ht hvm hp hB hz hkp hS1 => ?_)
  obtain ⟨rfl, hr, hM1, hSH1⟩ := hp
  rw [ht] at hB
  exact kk hrL (rcons (show rg n (vI r) from hr) hr2) hM1 hSH1 hW H1 locs1 ls hB hS1 hl
theorem j_callNI {host : String} (hX : Ctx X cc own d) (hMW : MW y ccy maxL ret) (hMS : MS y) (hnw : ∀ {U : State} {H : Heap} {A : Nat → Prop}, SF A U H → va_Nw (.methodLinkNest own ix y host) U) (hy : y.cls ≠ "java/lang/invoke/MethodHandle" ∧ y.cls ≠ "java/lang/invoke/VarHandle") (hdc : dc + 1 ≤ d) (hmx : maxL ≤ 41) (hcs : k2 ≤ X.2.2.2.1.cells ∧ k3 ≤ X.2.2.2.1.slots) (hd : decode cc pc = .ok (.invokestatic ix, 3)) (hC : Cn (gX X) B n y ccy maxL ret dc (as) M (QcI (gX X) B n r M')) (hn : (parseMethodDescriptor y.desc).map (fun d => d.parameters.length) = some as.length) (hs : stk' = as.reverse ++ st) (hst : (st.map ct).sum ≤ 8) (kk : JW X B n k2 k3 (pc + 3) L (vI r :: st) M' Q) : JW X B n k2 k3 pc L stk' M Q := by
  subst hs
  obtain ⟨p, l, e, R, s, m, args, below, meth, c, A, D, cA, f, nL⟩ := X
  obtain ⟨hx, hb, hmL, hown, hts, hK, hA, hSF, hdf, hdl⟩ := hX
  intro hrL hrS hM hSH hW H locs ls hP hS hl
  have hr1 : ∀ v ∈ as, rg n v := fun v hv => hrS v (List.mem_append_left _ (List.mem_reverse.mpr hv))
  have hr2 : ∀ v ∈ st, rg n v := fun v hv => hrS v (List.mem_append_right _ hv)
  have hMet := hC ⟨hr1, hM, hSH, hW⟩
  have hpre : ∀ U : State, U.heap = H → s.WarmedH U.vm → Wd (gX (p, l, e, R, s, m, args, below, meth, c, A, D, cA, f, nL)) B n M U := fun U hU hWm => ⟨by rw [hU]; exact hP, va_K.moved hWm.alike hK, SF.go hSF hS hWm hU, fun q hq => hA q (Nat.le_trans hS.1 (by rw [← hU]; exact hq))⟩
  have hsm : ((st.map (cv B)).map fun v => v.category).sum ≤ 8 := by
    have e : (st.map (cv B)).map (fun v => v.category) = st.map ct := by rw [List.map_map]; exact List.map_congr_left (fun v _ => cv_ct B v)
    rw [e]; exact hst
  have hfr : (rmD dc).frames + 1 ≤ R.frames ∧ 8 + (maxL + 11) + (rmD dc).locals ≤ R.locals := ⟨Nat.le_trans hdc hdf, by show 8 + (maxL + 11) + 60 * dc ≤ R.locals; omega⟩
  refine va_calli (A0 := A) (A1 := A) (va_runSN (As := as.map (cv B)) (rest := st.map (cv B)) (n := as.length) ⟨hx, hb, hmL, hown, hts⟩ hMet ⟨va_cnB as.length hts (TB_in (TBy hMW)) rfl rfl rfl (hnw hSF) (hts _ hMW.2) ⟨hy.1, hy.2, hn⟩ hfr, hts _ hMS, trivial⟩ ⟨Wd.blind, fun U hU hWm => ⟨rfl, hpre U hU hWm⟩⟩ rfl (by simp) hl.1 (by simp [F0]) (lv_room hsm) hd ⟨hcs.1, hcs.2⟩) hS (fun q _ h => h) (fun q h => h) (fun r1 u1 t H1 locs1 ht hvm hp hB hz hkp hS1 => ?_)
  obtain ⟨rfl, hr, hM1, hSH1⟩ := hp
  rw [ht] at hB
  exact kk hrL (rcons (show rg n (vI r) from hr) hr2) hM1 hSH1 hW H1 locs1 ls hB hS1 hl
theorem j_callVL (hX : Ctx X cc own d) (hMW : MW y ccy maxL ret) (hMI : MI y) (hml : Cond.methodLink own ix y ∈ TB) (hCB : CB y.cls F N ci t0) (ho : tyc o = (0, ci)) (hy : y.cls ≠ "java/lang/invoke/MethodHandle" ∧ y.cls ≠ "java/lang/invoke/VarHandle") (hdc : dc + 1 ≤ d) (hmx : maxL ≤ 41) (hcs : k2 ≤ X.2.2.2.1.cells ∧ k3 ≤ X.2.2.2.1.slots) (hd : decode cc pc = .ok (.invokevirtual ix, 3)) (hC : Cn (gX X) B n y ccy maxL ret dc (vR o :: as) M (QcL (gX X) B n r M')) (hn : (parseMethodDescriptor y.desc).map (fun d => d.parameters.length) = some as.length) (hs : stk' = as.reverse ++ vR o :: st) (hst : (st.map ct).sum ≤ 8) (kk : JW X B n k2 k3 (pc + 3) L (vL r :: st) M' Q) : JW X B n k2 k3 pc L stk' M Q := by
  subst hs
  obtain ⟨p, l, e, R, s, m, args, below, meth, c, A, D, cA, f, nL⟩ := X
  obtain ⟨hx, hb, hmL, hown, hts, hK, hA, hSF, hdf, hdl⟩ := hX
  intro hrL hrS hM hSH hW H locs ls hP hS hl
  have hr1 : ∀ v ∈ as, rg n v := fun v hv => hrS v (List.mem_append_left _ (List.mem_reverse.mpr hv))
  have hr2 : ∀ v ∈ vR o :: st, rg n v := fun v hv => hrS v (List.mem_append_right _ hv)
  have hMet := hC ⟨rcons (rh hr2) hr1, hM, hSH, hW⟩
  have hpre : ∀ U : State, U.heap = H → s.WarmedH U.vm → Wd (gX (p, l, e, R, s, m, args, below, meth, c, A, D, cA, f, nL)) B n M U := fun U hU hWm => ⟨by rw [hU]; exact hP, va_K.moved hWm.alike hK, SF.go hSF hS hWm hU, fun q hq => hA q (Nat.le_trans hS.1 (by rw [← hU]; exact hq))⟩
  have hsm : ((st.map (cv B)).map fun v => v.category).sum ≤ 8 := by
    have e : (st.map (cv B)).map (fun v => v.category) = st.map ct := by rw [List.map_map]; exact List.map_congr_left (fun v _ => cv_ct B v)
    rw [e]; exact hst
  have hfr : (rmD dc).frames + 1 ≤ R.frames ∧ 8 + (maxL + 11) + (rmD dc).locals ≤ R.locals := ⟨Nat.le_trans hdc hdf, by show 8 + (maxL + 11) + 60 * dc ≤ R.locals; omega⟩
  have hon : o < n := rh hr2
  refine va_calll (A0 := A) (A1 := A) (va_runV (As := as.map (cv B)) (rest := st.map (cv B)) (C := y.cls) (n := as.length) (b := B o) ⟨hx, hb, hmL, hown, hts⟩ hMet (cwV as.length hts (TB_in (fun w hw => by rcases List.mem_append.mp hw with h | h; (· simp only [List.mem_cons, List.not_mem_nil, or_false] at h; rcases h with rfl | rfl | rfl | rfl; (· exact hml); (· exact hMI.1); (· exact hMI.2); (· exact hMW.2)); (· exact TBy hMW w h))) rfl rfl rfl ⟨rfl, hy.1, hy.2, hn⟩ hfr) ⟨Wd.blind, va_recv hK hP hCB.2.1 ((wN_get hon).trans (by rw [ce_o ho])), fun U hU hWm => ⟨rfl, hpre U hU hWm⟩⟩ rfl (by simp) hl.1 (by simp [F0, cv]) (lv_room hsm) hd ⟨hcs.1, hcs.2⟩) hS (fun q _ h => h) (fun q h => h) (fun r1 u1 t H1 locs1 ht hvm hp hB hz hkp hS1 => ?_)
  obtain ⟨rfl, hr, hM1, hSH1⟩ := hp
  rw [ht] at hB
  exact kk hrL (rcons (show rg n (vL r) from hr) (rt hr2)) hM1 hSH1 hW H1 locs1 ls hB hS1 hl
theorem j_callSL (hX : Ctx X cc own d) (hMW : MW y ccy maxL ret) (hMS : MS y) (hml : Cond.methodLink own ix y ∈ TB) (hy : y.cls ≠ "java/lang/invoke/MethodHandle" ∧ y.cls ≠ "java/lang/invoke/VarHandle") (hdc : dc + 1 ≤ d) (hmx : maxL ≤ 41) (hcs : k2 ≤ X.2.2.2.1.cells ∧ k3 ≤ X.2.2.2.1.slots) (hd : decode cc pc = .ok (.invokestatic ix, 3)) (hC : Cn (gX X) B n y ccy maxL ret dc (as) M (QcL (gX X) B n r M')) (hn : (parseMethodDescriptor y.desc).map (fun d => d.parameters.length) = some as.length) (hs : stk' = as.reverse ++ st) (hst : (st.map ct).sum ≤ 8) (kk : JW X B n k2 k3 (pc + 3) L (vL r :: st) M' Q) : JW X B n k2 k3 pc L stk' M Q := by
  subst hs
  obtain ⟨p, l, e, R, s, m, args, below, meth, c, A, D, cA, f, nL⟩ := X
  obtain ⟨hx, hb, hmL, hown, hts, hK, hA, hSF, hdf, hdl⟩ := hX
  intro hrL hrS hM hSH hW H locs ls hP hS hl
  have hr1 : ∀ v ∈ as, rg n v := fun v hv => hrS v (List.mem_append_left _ (List.mem_reverse.mpr hv))
  have hr2 : ∀ v ∈ st, rg n v := fun v hv => hrS v (List.mem_append_right _ hv)
  have hMet := hC ⟨hr1, hM, hSH, hW⟩
  have hpre : ∀ U : State, U.heap = H → s.WarmedH U.vm → Wd (gX (p, l, e, R, s, m, args, below, meth, c, A, D, cA, f, nL)) B n M U := fun U hU hWm => ⟨by rw [hU]; exact hP, va_K.moved hWm.alike hK, SF.go hSF hS hWm hU, fun q hq => hA q (Nat.le_trans hS.1 (by rw [← hU]; exact hq))⟩
  have hsm : ((st.map (cv B)).map fun v => v.category).sum ≤ 8 := by
    have e : (st.map (cv B)).map (fun v => v.category) = st.map ct := by rw [List.map_map]; exact List.map_congr_left (fun v _ => cv_ct B v)
    rw [e]; exact hst
  have hfr : (rmD dc).frames + 1 ≤ R.frames ∧ 8 + (maxL + 11) + (rmD dc).locals ≤ R.locals := ⟨Nat.le_trans hdc hdf, by show 8 + (maxL + 11) + 60 * dc ≤ R.locals; omega⟩
  refine va_calll (A0 := A) (A1 := A) (va_runS (As := as.map (cv B)) (rest := st.map (cv B)) (n := as.length) ⟨hx, hb, hmL, hown, hts⟩ hMet ⟨callB_of as.length hts (TB_in (TBy hMW)) rfl rfl rfl (hts _ hMW.2) (hts _ hml) ⟨hy.1, hy.2, hn⟩ hfr, hts _ hMS⟩ ⟨Wd.blind, fun U hU hWm => ⟨rfl, hpre U hU hWm⟩⟩ rfl (by simp) hl.1 (by simp [F0]) (lv_room hsm) hd ⟨hcs.1, hcs.2⟩) hS (fun q _ h => h) (fun q h => h) (fun r1 u1 t H1 locs1 ht hvm hp hB hz hkp hS1 => ?_)
  obtain ⟨rfl, hr, hM1, hSH1⟩ := hp
  rw [ht] at hB
  exact kk hrL (rcons (show rg n (vL r) from hr) hr2) hM1 hSH1 hW H1 locs1 ls hB hS1 hl
theorem j_callVV (hX : Ctx X cc own d) (hMW : MW y ccy maxL ret) (hMI : MI y) (hml : Cond.methodLink own ix y ∈ TB) (hCB : CB y.cls F N ci t0) (ho : tyc o = (0, ci)) (hy : y.cls ≠ "java/lang/invoke/MethodHandle" ∧ y.cls ≠ "java/lang/invoke/VarHandle") (hdc : dc + 1 ≤ d) (hmx : maxL ≤ 41) (hcs : k2 ≤ X.2.2.2.1.cells ∧ k3 ≤ X.2.2.2.1.slots) (hd : decode cc pc = .ok (.invokevirtual ix, 3)) (hC : Cn (gX X) B n y ccy maxL ret dc (vR o :: as) M (QcV (gX X) B n M')) (hn : (parseMethodDescriptor y.desc).map (fun d => d.parameters.length) = some as.length) (hs : stk' = as.reverse ++ vR o :: st) (hst : (st.map ct).sum ≤ 8) (kk : JW X B n k2 k3 (pc + 3) L (st) M' Q) : JW X B n k2 k3 pc L stk' M Q := by
  subst hs
  obtain ⟨p, l, e, R, s, m, args, below, meth, c, A, D, cA, f, nL⟩ := X
  obtain ⟨hx, hb, hmL, hown, hts, hK, hA, hSF, hdf, hdl⟩ := hX
  intro hrL hrS hM hSH hW H locs ls hP hS hl
  have hr1 : ∀ v ∈ as, rg n v := fun v hv => hrS v (List.mem_append_left _ (List.mem_reverse.mpr hv))
  have hr2 : ∀ v ∈ vR o :: st, rg n v := fun v hv => hrS v (List.mem_append_right _ hv)
  have hMet := hC ⟨rcons (rh hr2) hr1, hM, hSH, hW⟩
  have hpre : ∀ U : State, U.heap = H → s.WarmedH U.vm → Wd (gX (p, l, e, R, s, m, args, below, meth, c, A, D, cA, f, nL)) B n M U := fun U hU hWm => ⟨by rw [hU]; exact hP, va_K.moved hWm.alike hK, SF.go hSF hS hWm hU, fun q hq => hA q (Nat.le_trans hS.1 (by rw [← hU]; exact hq))⟩
  have hsm : ((st.map (cv B)).map fun v => v.category).sum ≤ 8 := by
    have e : (st.map (cv B)).map (fun v => v.category) = st.map ct := by rw [List.map_map]; exact List.map_congr_left (fun v _ => cv_ct B v)
    rw [e]; exact hst
  have hfr : (rmD dc).frames + 1 ≤ R.frames ∧ 8 + (maxL + 11) + (rmD dc).locals ≤ R.locals := ⟨Nat.le_trans hdc hdf, by show 8 + (maxL + 11) + 60 * dc ≤ R.locals; omega⟩
  have hon : o < n := rh hr2
  refine va_callv (A0 := A) (A1 := A) (va_runV (As := as.map (cv B)) (rest := st.map (cv B)) (C := y.cls) (n := as.length) (b := B o) ⟨hx, hb, hmL, hown, hts⟩ hMet (cwV as.length hts (TB_in (fun w hw => by rcases List.mem_append.mp hw with h | h; (· simp only [List.mem_cons, List.not_mem_nil, or_false] at h; rcases h with rfl | rfl | rfl | rfl; (· exact hml); (· exact hMI.1); (· exact hMI.2); (· exact hMW.2)); (· exact TBy hMW w h))) rfl rfl rfl ⟨rfl, hy.1, hy.2, hn⟩ hfr) ⟨Wd.blind, va_recv hK hP hCB.2.1 ((wN_get hon).trans (by rw [ce_o ho])), fun U hU hWm => ⟨rfl, hpre U hU hWm⟩⟩ rfl (by simp) hl.1 (by simp [F0, cv]) (lv_room hsm) hd ⟨hcs.1, hcs.2⟩) hS (fun q _ h => h) (fun q h => h) (fun u1 t H1 locs1 ht hvm hp hB hz hkp hS1 => ?_)
  obtain ⟨hM1, hSH1⟩ := hp
  rw [ht] at hB
  exact kk hrL ((rt hr2)) hM1 hSH1 hW H1 locs1 ls hB hS1 hl
theorem j_callSV (hX : Ctx X cc own d) (hMW : MW y ccy maxL ret) (hMS : MS y) (hml : Cond.methodLink own ix y ∈ TB) (hy : y.cls ≠ "java/lang/invoke/MethodHandle" ∧ y.cls ≠ "java/lang/invoke/VarHandle") (hdc : dc + 1 ≤ d) (hmx : maxL ≤ 41) (hcs : k2 ≤ X.2.2.2.1.cells ∧ k3 ≤ X.2.2.2.1.slots) (hd : decode cc pc = .ok (.invokestatic ix, 3)) (hC : Cn (gX X) B n y ccy maxL ret dc (as) M (QcV (gX X) B n M')) (hn : (parseMethodDescriptor y.desc).map (fun d => d.parameters.length) = some as.length) (hs : stk' = as.reverse ++ st) (hst : (st.map ct).sum ≤ 8) (kk : JW X B n k2 k3 (pc + 3) L (st) M' Q) : JW X B n k2 k3 pc L stk' M Q := by
  subst hs
  obtain ⟨p, l, e, R, s, m, args, below, meth, c, A, D, cA, f, nL⟩ := X
  obtain ⟨hx, hb, hmL, hown, hts, hK, hA, hSF, hdf, hdl⟩ := hX
  intro hrL hrS hM hSH hW H locs ls hP hS hl
  have hr1 : ∀ v ∈ as, rg n v := fun v hv => hrS v (List.mem_append_left _ (List.mem_reverse.mpr hv))
  have hr2 : ∀ v ∈ st, rg n v := fun v hv => hrS v (List.mem_append_right _ hv)
  have hMet := hC ⟨hr1, hM, hSH, hW⟩
  have hpre : ∀ U : State, U.heap = H → s.WarmedH U.vm → Wd (gX (p, l, e, R, s, m, args, below, meth, c, A, D, cA, f, nL)) B n M U := fun U hU hWm => ⟨by rw [hU]; exact hP, va_K.moved hWm.alike hK, SF.go hSF hS hWm hU, fun q hq => hA q (Nat.le_trans hS.1 (by rw [← hU]; exact hq))⟩
  have hsm : ((st.map (cv B)).map fun v => v.category).sum ≤ 8 := by
    have e : (st.map (cv B)).map (fun v => v.category) = st.map ct := by rw [List.map_map]; exact List.map_congr_left (fun v _ => cv_ct B v)
    rw [e]; exact hst
  have hfr : (rmD dc).frames + 1 ≤ R.frames ∧ 8 + (maxL + 11) + (rmD dc).locals ≤ R.locals := ⟨Nat.le_trans hdc hdf, by show 8 + (maxL + 11) + 60 * dc ≤ R.locals; omega⟩
  refine va_callv (A0 := A) (A1 := A) (va_runS (As := as.map (cv B)) (rest := st.map (cv B)) (n := as.length) ⟨hx, hb, hmL, hown, hts⟩ hMet ⟨callB_of as.length hts (TB_in (TBy hMW)) rfl rfl rfl (hts _ hMW.2) (hts _ hml) ⟨hy.1, hy.2, hn⟩ hfr, hts _ hMS⟩ ⟨Wd.blind, fun U hU hWm => ⟨rfl, hpre U hU hWm⟩⟩ rfl (by simp) hl.1 (by simp [F0]) (lv_room hsm) hd ⟨hcs.1, hcs.2⟩) hS (fun q _ h => h) (fun q h => h) (fun u1 t H1 locs1 ht hvm hp hB hz hkp hS1 => ?_)
  obtain ⟨hM1, hSH1⟩ := hp
  rw [ht] at hB
  exact kk hrL (hr2) hM1 hSH1 hW H1 locs1 ls hB hS1 hl
theorem j_iret (hX : Ctx X cc own d) {v : Int} (hr : CR X (some .int)) (hd : decode cc pc = .ok (.ireturn, 1)) : JW X B n 0 0 pc L [vI v] M (QM X (QcI (gX X) B n v M)) := by
  obtain ⟨p, l, e, R, s, m, args, below, meth, c, A, D, cA, f, nL⟩ := X
  obtain ⟨hx, hb, hml, hown, hts, hK, hA, hSF, hdf, hdl⟩ := hX
  intro hrL hrS hM hSH hW H locs ls hP hS hl
  exact W.iret hx hb hr.1 (fun t ht hWm => ⟨⟨Int32.ofInt v, (), rfl, ⟨rfl, rh hrS, hM, hSH⟩, show va_P D cl (wN n cA B M) t.heap from by rw [ht]; exact hP⟩, hS.F ht⟩) hS.2.2 hd (hlocks := hr.2)
theorem j_zret (hX : Ctx X cc own d) {v : Int} (hr : CR X (some .boolean)) (hv : v = 0 ∨ v = 1) (hd : decode cc pc = .ok (.ireturn, 1)) : JW X B n 0 0 pc L [vI v] M (QM X (QcI (gX X) B n v M)) := by
  obtain ⟨p, l, e, R, s, m, args, below, meth, c, A, D, cA, f, nL⟩ := X
  obtain ⟨hx, hb, hml, hown, hts, hK, hA, hSF, hdf, hdl⟩ := hX
  intro hrL hrS hM hSH hW H locs ls hP hS hl
  exact W.zret hx hb hr.1 (by rcases hv with rfl | rfl <;> decide) (fun t ht hWm => ⟨⟨Int32.ofInt v, (), rfl, ⟨rfl, rh hrS, hM, hSH⟩, show va_P D cl (wN n cA B M) t.heap from by rw [ht]; exact hP⟩, hS.F ht⟩) hS.2.2 hd (hlocks := hr.2)
theorem j_lret (hX : Ctx X cc own d) {v : Int} (hr : CR X (some .long)) (hd : decode cc pc = .ok (.lreturn, 1)) : JW X B n 0 0 pc L [vL v] M (QM X (QcL (gX X) B n v M)) := by
  obtain ⟨p, l, e, R, s, m, args, below, meth, c, A, D, cA, f, nL⟩ := X
  obtain ⟨hx, hb, hml, hown, hts, hK, hA, hSF, hdf, hdl⟩ := hX
  intro hrL hrS hM hSH hW H locs ls hP hS hl
  exact W.lret hx hb hr.1 (fun t ht hWm => ⟨⟨Int64.ofInt v, (), rfl, ⟨rfl, rh hrS, hM, hSH⟩, show va_P D cl (wN n cA B M) t.heap from by rw [ht]; exact hP⟩, hS.F ht⟩) hS.2.2 hd (hlocks := hr.2)
theorem j_vret (hX : Ctx X cc own d) (hr : CR X none) (hd : decode cc pc = .ok (.return_, 1)) : JW X B n 0 0 pc L [] M (QM X (QcV (gX X) B n M)) := by
  obtain ⟨p, l, e, R, s, m, args, below, meth, c, A, D, cA, f, nL⟩ := X
  obtain ⟨hx, hb, hml, hown, hts, hK, hA, hSF, hdf, hdl⟩ := hX
  intro hrL hrS hM hSH hW H locs ls hP hS hl
  exact W.vret hx hb hr.1 (fun t ht hWm => ⟨⟨(), rfl, ⟨hM, hSH⟩, show va_P D cl (wN n cA B M) t.heap from by rw [ht]; exact hP⟩, hS.F ht⟩) hS.2.2 hd (hlocks := hr.2)
end JC
