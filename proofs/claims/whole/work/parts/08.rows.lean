/-! THE ROWS of the walk JW, an instruction each -/
def sfC : Nat → String × String × List Int := fun i => match i with
  | 0 => ("TelegramFeelings$Office", "LEAST", [1, 0, 0, 1, 0, 0, 0, 0, 0, 1])
  | 1 => ("TelegramFeelings$Office", "MOST", [9, 63, 2, 9, 11, 999, 63, 1, 12, 20])
  | _ => ("TelegramFeelings$Bodies", "ABOVE", [-1, 0, 0, 2, 1, 3, 0, 6])
def nw1 : Cond := .methodLinkNest "TelegramFeelings" 73 ⟨"TelegramFeelings$Bodies", "<init>", "()V"⟩ "TelegramFeelings"
def nw2 : Cond := .methodLinkNest "TelegramFeelings$Office" 30 ⟨"TelegramFeelings", "between", "(III)Z"⟩ "TelegramFeelings"
def nw3 : Cond := .methodLinkNest "TelegramFeelings$Hearing" 106 ⟨"TelegramFeelings", "isIn", "(II)Z"⟩ "TelegramFeelings"
/-- a row's class over the class of rows of ty -/
def va_AOA (ty : FieldType) (U : State) : Prop := (Cond.arrayOver (.array ty)).before #[] U = true
theorem va_AOA.moved {ty : FieldType} {u U : State} (hvm : u.vm.Alike U.vm) (h : va_AOA ty u) : va_AOA ty U := by
  unfold va_AOA Cond.before at h ⊢
  simp only [Cond.holds, Cond.value] at h ⊢
  have f3 := fun comp => (va_idx_bare U.vm comp).symm.trans ((congrArg (fun v : Vm => Array.findIdx? _ v.classes) hvm.bare_eq).trans (va_idx_bare u.vm comp))
  simp only [hvm.findClass]
  cases h1 : u.vm.findClass (FieldType.array ty).toString with
  | none => rw [h1] at h; simp at h
  | some comp =>
    rw [h1] at h
    simp only [Option.bind_some] at h ⊢
    generalize h2 : Array.findIdx? _ u.vm.classes = fo at h
    generalize g2 : Array.findIdx? _ U.vm.classes = go
    have e : go = fo := g2.symm.trans ((f3 comp).trans h2)
    subst e
    cases go with
    | none => simp at h
    | some c =>
      simp only [Option.bind_some] at h ⊢
      cases hk : u.vm.classes[c]? with
      | none => rw [hk] at h; simp at h
      | some k =>
        obtain ⟨k', hk', e'⟩ := hvm.2.2 c k hk
        rw [hk] at h
        rw [hk']
        simp only [Option.map_some] at h ⊢
        have e2 : k'.kind = k.kind := by rw [e']
        rw [e2]
        exact h
/-- what stands outside the cells and is never written -/
def SF (A : Nat → Prop) (U : State) (H : Heap) : Prop := (∀ i, i < 3 → ∃ t, va_Z (sfC i).1 (sfC i).2.1 "[I" (.ref t) A U H ∧ va_T .int t (sfC i).2.2.length (fun j => .int (Int32.ofInt ((sfC i).2.2.getD j 0))) A U H) ∧ (va_Nw nw1 U ∧ va_Nw nw2 U ∧ va_Nw nw3 U) ∧ (va_Z "java/lang/String" "COMPACT_STRINGS" "Z" (.int 1) A U H ∧ va_AOA .int U ∧ va_AOA .long U) ∧ ∃ a v, vk_R "TelegramFeelings$Law" 21 "cslpdw" a U ∧ vk_S 1 [6] [[99, 115, 108, 112, 100, 119]] (fun _ => a) (fun _ => v) A U H
theorem SF.go {A : Nat → Prop} {s U : State} {H : Heap} {locs : List Loc} (h : SF A s s.heap) (hS : va_S A s.heap H locs) (hW : s.WarmedH U.vm) (hU : U.heap = H) : SF A U U.heap := by
  obtain ⟨h1, ⟨h2, h3, h4⟩, h5, a, v, h6, h7⟩ := h
  have hk : ∀ q : Nat, q < s.heap.size → ¬ A q → U.heap[q]? = s.heap[q]? := fun q g1 g2 => by rw [hU]; exact hS.2.1 q g1 g2
  refine ⟨fun i hi => ?_, ⟨va_Nw.warmM hW h2, va_Nw.warmM hW h3, va_Nw.warmM hW h4⟩, ⟨va_Z.moved hW.alike (h5.1.kept hk), h5.2.1.moved hW.alike, h5.2.2.moved hW.alike⟩, a, v, vk_R.warm hW h6, vk_S.moved hW.alike (h7.kept hk)⟩
  obtain ⟨t, g1, g2⟩ := h1 i hi
  exact ⟨t, va_Z.moved hW.alike (g1.kept hk), va_T.moved hW.alike (g2.kept hk)⟩
theorem SF.call {A : Nat → Prop} {U : State} {g : JFrame} {mk : MethodId} {a : Array Value} (h : SF A U U.heap) : SF A (U.calling g mk a) (U.calling g mk a).heap := by
  obtain ⟨h1, ⟨h2, h3, h4⟩, h5, a', v, h6, h7⟩ := h
  refine ⟨fun i hi => ?_, ⟨va_Nw.same rfl rfl h2, va_Nw.same rfl rfl h3, va_Nw.same rfl rfl h4⟩, ⟨va_Z.moved (u := U) (Vm.Alike.refl U.vm) h5.1, va_AOA.moved (u := U) (Vm.Alike.refl U.vm) h5.2.1, va_AOA.moved (u := U) (Vm.Alike.refl U.vm) h5.2.2⟩, a', v, vk_R.same (u := U) rfl h6, vk_S.moved (u := U) (Vm.Alike.refl U.vm) h7⟩
  obtain ⟨t, g1, g2⟩ := h1 i hi
  exact ⟨t, va_Z.moved (u := U) (Vm.Alike.refl U.vm) g1, va_T.moved (u := U) (Vm.Alike.refl U.vm) g2⟩
abbrev K0 : Type := Program × Launch × Env × Room × State × MethodId × Array Value × List Frame × Method × Code × (Nat → Prop) × va_G × (Nat → ClassId) × Bool × Nat
abbrev G0 : Type := Launch × (Nat → Prop) × va_G × (Nat → ClassId) × Bool
/-- what of a walk its callees share -/
def gX (X : K0) : G0 := (X.2.1, X.2.2.2.2.2.2.2.2.2.2.1, X.2.2.2.2.2.2.2.2.2.2.2.1, X.2.2.2.2.2.2.2.2.2.2.2.2.1, X.2.2.2.2.2.2.2.2.2.2.2.2.2.1)
def JW (X : K0) (B : Nat → Nat) (n k2 k3 pc : Nat) (L : List (Nat × AV)) (st : List AV) (M : Mem) (Q : State → Prop) : Prop := match X with
  | (p, l, e, R, s, m, args, below, meth, c, A, D, cA, f, nL) =>
    (∀ q ∈ L, rg n q.2) → (∀ v ∈ st, rg n v) → MR n M → (f = true → SH M) → WB n B A → ∀ (H : Heap) (locs : List Loc) (ls : Array Slot), va_P D cl (wN n cA B M) H → va_S A s.heap H locs → lv_has ls nL (lm B L) → W p l e R s m args below meth c H locs k2 k3 Q (F0 m pc ls (st.map (cv B)))
def Ctx (X : K0) (cc : ByteArray) (own : String) (d : Nat) : Prop := match X with
  | (p, l, e, R, s, m, args, below, meth, c, A, D, cA, f, nL) => p.tables.exec = Jvm.exec ∧ c.code = cc ∧ c.maxLocals = nL ∧ s.vm.findClass own = some m.cls ∧ (∀ w ∈ TB, w.before args s = true) ∧ va_K D cl (tysOf cA) s ∧ (∀ q, s.heap.size ≤ q → A q) ∧ SF A s s.heap ∧ d ≤ R.frames ∧ 60 * d ≤ R.locals
theorem rcons {n : Nat} {v : AV} {st : List AV} (h : rg n v) (hs : ∀ x ∈ st, rg n x) : ∀ x ∈ v :: st, rg n x := fun x hx => (List.mem_cons.mp hx).elim (fun e => e ▸ h) (hs x)
theorem rt {n : Nat} {v : AV} {st : List AV} (hs : ∀ x ∈ v :: st, rg n x) : ∀ x ∈ st, rg n x := fun x hx => hs x (List.mem_cons_of_mem _ hx)
theorem rh {n : Nat} {v : AV} {st : List AV} (hs : ∀ x ∈ v :: st, rg n x) : rg n v := hs v List.mem_cons_self
theorem rL1 {n : Nat} {i : Nat} {v : AV} {L : List (Nat × AV)} (h : rg n v) (hL : ∀ q ∈ L, rg n q.2) : ∀ q ∈ st1 i v L, rg n q.2 := fun q hq => (List.mem_cons.mp hq).elim (fun e => by rw [e]; exact h) (fun g => hL q (List.mem_filter.mp g).1)
theorem rL2 {n : Nat} {i : Nat} {v : AV} {L : List (Nat × AV)} (h : rg n v) (hL : ∀ q ∈ L, rg n q.2) : ∀ q ∈ st2 i v L, rg n q.2 := fun q hq => (List.mem_cons.mp hq).elim (fun e => by rw [e]; exact h) (fun g => hL q (List.mem_filter.mp g).1)
def pk (L : List (Nat × AV)) (ks : List Nat) : List (Nat × AV) := ks.filterMap (fun k => L[k]?)
section JR
variable {X : K0} {cc : ByteArray} {own : String} {d : Nat} {B : Nat → Nat} {n k2 k3 pc : Nat} {L : List (Nat × AV)} {st : List AV} {M : Mem} {Q : State → Prop}
/-- fewer locals, by their places -/
theorem j_sub (ks : List Nat) {L' : List (Nat × AV)} (h : pk L ks = L') (kk : JW X B n k2 k3 pc L' st M Q) : JW X B n k2 k3 pc L st M Q := by
  obtain ⟨p, l, e, R, s, m, args, below, meth, c, A, D, cA, f, nL⟩ := X
  intro hrL hrS hM hSH hW H locs ls hP hS hl
  have hm : ∀ q ∈ L', q ∈ L := fun q hq => by
    rw [← h] at hq
    obtain ⟨k, -, hk⟩ := List.mem_filterMap.mp hq
    exact List.mem_of_getElem? hk
  refine kk (fun q hq => hrL q (hm q hq)) hrS hM hSH hW H locs ls hP hS ⟨hl.1, hl.2.1, fun q hq => ?_⟩
  obtain ⟨x, hx, rfl⟩ := List.mem_map.mp hq
  exact hl.2.2 _ (List.mem_map.mpr ⟨x, hm x hx, rfl⟩)
theorem j_iconst (hX : Ctx X cc own d) {z : Int} (hd : decode cc pc = .ok (.iconst z, 1)) (hr : r32 z) (kk : JW X B n k2 k3 (pc + 1) L (vI z :: st) M Q) : JW X B n k2 k3 pc L (st) M Q := by
  obtain ⟨p, l, e, R, s, m, args, below, meth, c, A, D, cA, f, nL⟩ := X
  obtain ⟨hx, hb, hml, hown, hts, hK, hA, hSF, hdf, hdl⟩ := hX
  intro hrL hrS hM hSH hW H locs ls hP hS hl
  exact lv_iconst hx hb hd rfl (kk hrL (rcons hr hrS) hM hSH hW H locs ls hP hS hl)
theorem j_bipush (hX : Ctx X cc own d) {z : Int} (hd : decode cc pc = .ok (.bipush z, 2)) (hr : r32 z) (hv : (Int8.ofInt z).toInt32 = Int32.ofInt z) (kk : JW X B n k2 k3 (pc + 2) L (vI z :: st) M Q) : JW X B n k2 k3 pc L (st) M Q := by
  obtain ⟨p, l, e, R, s, m, args, below, meth, c, A, D, cA, f, nL⟩ := X
  obtain ⟨hx, hb, hml, hown, hts, hK, hA, hSF, hdf, hdl⟩ := hX
  intro hrL hrS hM hSH hW H locs ls hP hS hl
  exact lv_bipush hx hb hd hv (kk hrL (rcons hr hrS) hM hSH hW H locs ls hP hS hl)
theorem j_sipush (hX : Ctx X cc own d) {z : Int} (hd : decode cc pc = .ok (.sipush z, 3)) (hr : r32 z) (hv : (Int16.ofInt z).toInt32 = Int32.ofInt z) (kk : JW X B n k2 k3 (pc + 3) L (vI z :: st) M Q) : JW X B n k2 k3 pc L (st) M Q := by
  obtain ⟨p, l, e, R, s, m, args, below, meth, c, A, D, cA, f, nL⟩ := X
  obtain ⟨hx, hb, hml, hown, hts, hK, hA, hSF, hdf, hdl⟩ := hX
  intro hrL hrS hM hSH hW H locs ls hP hS hl
  exact lv_sipush hx hb hd hv (kk hrL (rcons hr hrS) hM hSH hW H locs ls hP hS hl)
theorem j_ldc (hX : Ctx X cc own d) {z : Int} {ix : Nat} {v : Int32} (hw : Cond.constant own ix v ∈ TB) (hv : v = Int32.ofInt z) (hd : decode cc pc = .ok (.ldc ix, 2)) (hr : r32 z) (kk : JW X B n k2 k3 (pc + 2) L (vI z :: st) M Q) : JW X B n k2 k3 pc L (st) M Q := by
  obtain ⟨p, l, e, R, s, m, args, below, meth, c, A, D, cA, f, nL⟩ := X
  obtain ⟨hx, hb, hml, hown, hts, hK, hA, hSF, hdf, hdl⟩ := hX
  intro hrL hrS hM hSH hW H locs ls hP hS hl
  subst hv
  exact lv_ldc hx hb hown (hts _ hw) hd (kk hrL (rcons hr hrS) hM hSH hW H locs ls hP hS hl)
theorem j_ldcw (hX : Ctx X cc own d) {z : Int} {ix : Nat} {v : Int32} (hw : Cond.constant own ix v ∈ TB) (hv : v = Int32.ofInt z) (hd : decode cc pc = .ok (.ldc_w ix, 3)) (hr : r32 z) (kk : JW X B n k2 k3 (pc + 3) L (vI z :: st) M Q) : JW X B n k2 k3 pc L (st) M Q := by
  obtain ⟨p, l, e, R, s, m, args, below, meth, c, A, D, cA, f, nL⟩ := X
  obtain ⟨hx, hb, hml, hown, hts, hK, hA, hSF, hdf, hdl⟩ := hX
  intro hrL hrS hM hSH hW H locs ls hP hS hl
  subst hv
  exact lv_ldcw hx hb hown (hts _ hw) hd (kk hrL (rcons hr hrS) hM hSH hW H locs ls hP hS hl)
theorem j_ldc2 (hX : Ctx X cc own d) {z : Int} {ix : Nat} {v : Int64} (hw : Cond.constantLong own ix v ∈ TB) (hv : v = Int64.ofInt z) (hd : decode cc pc = .ok (.ldc2_w ix, 3)) (hr : r64 z) (kk : JW X B n k2 k3 (pc + 3) L (vL z :: st) M Q) : JW X B n k2 k3 pc L (st) M Q := by
  obtain ⟨p, l, e, R, s, m, args, below, meth, c, A, D, cA, f, nL⟩ := X
  obtain ⟨hx, hb, hml, hown, hts, hK, hA, hSF, hdf, hdl⟩ := hX
  intro hrL hrS hM hSH hW H locs ls hP hS hl
  subst hv
  exact lv_ldc2 hx hb hown (hts _ hw) hd (kk hrL (rcons hr hrS) hM hSH hW H locs ls hP hS hl)
theorem j_lconst (hX : Ctx X cc own d) {z : Int} {q : Fin 2} (hd : decode cc pc = .ok (.lconst q, 1)) (hv : Int64.ofNat (q : Nat) = Int64.ofInt z) (hr : r64 z) (kk : JW X B n k2 k3 (pc + 1) L (vL z :: st) M Q) : JW X B n k2 k3 pc L (st) M Q := by
  obtain ⟨p, l, e, R, s, m, args, below, meth, c, A, D, cA, f, nL⟩ := X
  obtain ⟨hx, hb, hml, hown, hts, hK, hA, hSF, hdf, hdl⟩ := hX
  intro hrL hrS hM hSH hW H locs ls hP hS hl
  exact lv_lconst hx hb hd hv (kk hrL (rcons hr hrS) hM hSH hW H locs ls hP hS hl)
theorem j_iload_n (hX : Ctx X cc own d) {q : Fin 4} {i : Nat} {v : Int} (k : Nat) (hd : decode cc pc = .ok (.iload_n q, 1)) (hi : (q : Nat) = i) (hk : L[k]? = some (i, vI v)) (kk : JW X B n k2 k3 (pc + 1) L (vI v :: st) M Q) : JW X B n k2 k3 pc L (st) M Q := by
  obtain ⟨p, l, e, R, s, m, args, below, meth, c, A, D, cA, f, nL⟩ := X
  obtain ⟨hx, hb, hml, hown, hts, hK, hA, hSF, hdf, hdl⟩ := hX
  intro hrL hrS hM hSH hW H locs ls hP hS hl
  exact lv_iload_n hx hb hd hi (lv_at hl k (lm_get hk)) (kk hrL (rcons (hrL _ (List.mem_of_getElem? hk)) hrS) hM hSH hW H locs ls hP hS hl)
theorem j_iload (hX : Ctx X cc own d) {i : Nat} {v : Int} (k : Nat) (hd : decode cc pc = .ok (.iload i, 2)) (hk : L[k]? = some (i, vI v)) (kk : JW X B n k2 k3 (pc + 2) L (vI v :: st) M Q) : JW X B n k2 k3 pc L (st) M Q := by
  obtain ⟨p, l, e, R, s, m, args, below, meth, c, A, D, cA, f, nL⟩ := X
  obtain ⟨hx, hb, hml, hown, hts, hK, hA, hSF, hdf, hdl⟩ := hX
  intro hrL hrS hM hSH hW H locs ls hP hS hl
  exact lv_iload hx hb hd (lv_at hl k (lm_get hk)) (kk hrL (rcons (hrL _ (List.mem_of_getElem? hk)) hrS) hM hSH hW H locs ls hP hS hl)
theorem j_istore_n (hX : Ctx X cc own d) {q : Fin 4} {i nl : Nat} {v : Int} {L' : List (Nat × AV)} (hd : decode cc pc = .ok (.istore_n q, 1)) (hi : (q : Nat) = i) (hn : X.2.2.2.2.2.2.2.2.2.2.2.2.2.2 = nl) (hq : i < nl) (hL : st1 i (vI v) L = L') (kk : JW X B n k2 k3 (pc + 1) L' (st) M Q) : JW X B n k2 k3 pc L (vI v :: st) M Q := by
  obtain ⟨p, l, e, R, s, m, args, below, meth, c, A, D, cA, f, nL⟩ := X
  obtain ⟨hx, hb, hml, hown, hts, hK, hA, hSF, hdf, hdl⟩ := hX
  intro hrL hrS hM hSH hW H locs ls hP hS hl
  subst hL
  subst hn
  exact lv_istore_n hx hb hd hi hl hq (lm_st1 B i (vI v) L) (fun ls hl => kk (rL1 (rh hrS) hrL) (rt hrS) hM hSH hW H locs ls hP hS hl)
theorem j_istore (hX : Ctx X cc own d) {i nl : Nat} {v : Int} {L' : List (Nat × AV)} (hd : decode cc pc = .ok (.istore i, 2)) (hn : X.2.2.2.2.2.2.2.2.2.2.2.2.2.2 = nl) (hq : i < nl) (hL : st1 i (vI v) L = L') (kk : JW X B n k2 k3 (pc + 2) L' (st) M Q) : JW X B n k2 k3 pc L (vI v :: st) M Q := by
  obtain ⟨p, l, e, R, s, m, args, below, meth, c, A, D, cA, f, nL⟩ := X
  obtain ⟨hx, hb, hml, hown, hts, hK, hA, hSF, hdf, hdl⟩ := hX
  intro hrL hrS hM hSH hW H locs ls hP hS hl
  subst hL
  subst hn
  exact lv_istore hx hb hd hl hq (lm_st1 B i (vI v) L) (fun ls hl => kk (rL1 (rh hrS) hrL) (rt hrS) hM hSH hW H locs ls hP hS hl)
theorem j_lload_n (hX : Ctx X cc own d) {q : Fin 4} {i : Nat} {v : Int} (k : Nat) (hd : decode cc pc = .ok (.lload_n q, 1)) (hi : (q : Nat) = i) (hk : L[k]? = some (i, vL v)) (kk : JW X B n k2 k3 (pc + 1) L (vL v :: st) M Q) : JW X B n k2 k3 pc L (st) M Q := by
  obtain ⟨p, l, e, R, s, m, args, below, meth, c, A, D, cA, f, nL⟩ := X
  obtain ⟨hx, hb, hml, hown, hts, hK, hA, hSF, hdf, hdl⟩ := hX
  intro hrL hrS hM hSH hW H locs ls hP hS hl
  exact lv_lload_n hx hb hd hi (lv_at hl k (lm_get hk)) (kk hrL (rcons (hrL _ (List.mem_of_getElem? hk)) hrS) hM hSH hW H locs ls hP hS hl)
theorem j_lload (hX : Ctx X cc own d) {i : Nat} {v : Int} (k : Nat) (hd : decode cc pc = .ok (.lload i, 2)) (hk : L[k]? = some (i, vL v)) (kk : JW X B n k2 k3 (pc + 2) L (vL v :: st) M Q) : JW X B n k2 k3 pc L (st) M Q := by
  obtain ⟨p, l, e, R, s, m, args, below, meth, c, A, D, cA, f, nL⟩ := X
  obtain ⟨hx, hb, hml, hown, hts, hK, hA, hSF, hdf, hdl⟩ := hX
  intro hrL hrS hM hSH hW H locs ls hP hS hl
  exact lv_lload hx hb hd (lv_at hl k (lm_get hk)) (kk hrL (rcons (hrL _ (List.mem_of_getElem? hk)) hrS) hM hSH hW H locs ls hP hS hl)
theorem j_lstore_n (hX : Ctx X cc own d) {q : Fin 4} {i nl : Nat} {v : Int} {L' : List (Nat × AV)} (hd : decode cc pc = .ok (.lstore_n q, 1)) (hi : (q : Nat) = i) (hn : X.2.2.2.2.2.2.2.2.2.2.2.2.2.2 = nl) (hq : i + 1 < nl) (hL : st2 i (vL v) L = L') (kk : JW X B n k2 k3 (pc + 1) L' (st) M Q) : JW X B n k2 k3 pc L (vL v :: st) M Q := by
  obtain ⟨p, l, e, R, s, m, args, below, meth, c, A, D, cA, f, nL⟩ := X
  obtain ⟨hx, hb, hml, hown, hts, hK, hA, hSF, hdf, hdl⟩ := hX
  intro hrL hrS hM hSH hW H locs ls hP hS hl
  subst hL
  subst hn
  exact lv_lstore_n hx hb hd hi hl hq (lm_st2 B i (vL v) L) (fun ls hl => kk (rL2 (rh hrS) hrL) (rt hrS) hM hSH hW H locs ls hP hS hl)
theorem j_lstore (hX : Ctx X cc own d) {i nl : Nat} {v : Int} {L' : List (Nat × AV)} (hd : decode cc pc = .ok (.lstore i, 2)) (hn : X.2.2.2.2.2.2.2.2.2.2.2.2.2.2 = nl) (hq : i + 1 < nl) (hL : st2 i (vL v) L = L') (kk : JW X B n k2 k3 (pc + 2) L' (st) M Q) : JW X B n k2 k3 pc L (vL v :: st) M Q := by
  obtain ⟨p, l, e, R, s, m, args, below, meth, c, A, D, cA, f, nL⟩ := X
  obtain ⟨hx, hb, hml, hown, hts, hK, hA, hSF, hdf, hdl⟩ := hX
  intro hrL hrS hM hSH hW H locs ls hP hS hl
  subst hL
  subst hn
  exact lv_lstore hx hb hd hl hq (lm_st2 B i (vL v) L) (fun ls hl => kk (rL2 (rh hrS) hrL) (rt hrS) hM hSH hW H locs ls hP hS hl)
theorem j_aload_n (hX : Ctx X cc own d) {q : Fin 4} {i : Nat} {v : Nat} (k : Nat) (hd : decode cc pc = .ok (.aload_n q, 1)) (hi : (q : Nat) = i) (hk : L[k]? = some (i, vR v)) (kk : JW X B n k2 k3 (pc + 1) L (vR v :: st) M Q) : JW X B n k2 k3 pc L (st) M Q := by
  obtain ⟨p, l, e, R, s, m, args, below, meth, c, A, D, cA, f, nL⟩ := X
  obtain ⟨hx, hb, hml, hown, hts, hK, hA, hSF, hdf, hdl⟩ := hX
  intro hrL hrS hM hSH hW H locs ls hP hS hl
  exact lv_aload_n hx hb hd hi (lv_at hl k (lm_get hk)) (kk hrL (rcons (hrL _ (List.mem_of_getElem? hk)) hrS) hM hSH hW H locs ls hP hS hl)
theorem j_aload (hX : Ctx X cc own d) {i : Nat} {v : Nat} (k : Nat) (hd : decode cc pc = .ok (.aload i, 2)) (hk : L[k]? = some (i, vR v)) (kk : JW X B n k2 k3 (pc + 2) L (vR v :: st) M Q) : JW X B n k2 k3 pc L (st) M Q := by
  obtain ⟨p, l, e, R, s, m, args, below, meth, c, A, D, cA, f, nL⟩ := X
  obtain ⟨hx, hb, hml, hown, hts, hK, hA, hSF, hdf, hdl⟩ := hX
  intro hrL hrS hM hSH hW H locs ls hP hS hl
  exact lv_aload hx hb hd (lv_at hl k (lm_get hk)) (kk hrL (rcons (hrL _ (List.mem_of_getElem? hk)) hrS) hM hSH hW H locs ls hP hS hl)
theorem j_astore_n (hX : Ctx X cc own d) {q : Fin 4} {i nl : Nat} {v : Nat} {L' : List (Nat × AV)} (hd : decode cc pc = .ok (.astore_n q, 1)) (hi : (q : Nat) = i) (hn : X.2.2.2.2.2.2.2.2.2.2.2.2.2.2 = nl) (hq : i < nl) (hL : st1 i (vR v) L = L') (kk : JW X B n k2 k3 (pc + 1) L' (st) M Q) : JW X B n k2 k3 pc L (vR v :: st) M Q := by
  obtain ⟨p, l, e, R, s, m, args, below, meth, c, A, D, cA, f, nL⟩ := X
  obtain ⟨hx, hb, hml, hown, hts, hK, hA, hSF, hdf, hdl⟩ := hX
  intro hrL hrS hM hSH hW H locs ls hP hS hl
  subst hL
  subst hn
  exact lv_astore_n hx hb hd hi hl hq (lm_st1 B i (vR v) L) (fun ls hl => kk (rL1 (rh hrS) hrL) (rt hrS) hM hSH hW H locs ls hP hS hl)
theorem j_astore (hX : Ctx X cc own d) {i nl : Nat} {v : Nat} {L' : List (Nat × AV)} (hd : decode cc pc = .ok (.astore i, 2)) (hn : X.2.2.2.2.2.2.2.2.2.2.2.2.2.2 = nl) (hq : i < nl) (hL : st1 i (vR v) L = L') (kk : JW X B n k2 k3 (pc + 2) L' (st) M Q) : JW X B n k2 k3 pc L (vR v :: st) M Q := by
  obtain ⟨p, l, e, R, s, m, args, below, meth, c, A, D, cA, f, nL⟩ := X
  obtain ⟨hx, hb, hml, hown, hts, hK, hA, hSF, hdf, hdl⟩ := hX
  intro hrL hrS hM hSH hW H locs ls hP hS hl
  subst hL
  subst hn
  exact lv_astore hx hb hd hl hq (lm_st1 B i (vR v) L) (fun ls hl => kk (rL1 (rh hrS) hrL) (rt hrS) hM hSH hW H locs ls hP hS hl)
theorem j_iinc (hX : Ctx X cc own d) {i nl : Nat} {v z : Int} {L' : List (Nat × AV)} (k : Nat) (hd : decode cc pc = .ok (.iinc i z, 3)) (hn : X.2.2.2.2.2.2.2.2.2.2.2.2.2.2 = nl) (hq : i < nl) (hk : L[k]? = some (i, vI v)) (hL : st1 i (vI (w32 (v + z))) L = L') (kk : JW X B n k2 k3 (pc + 3) L' (st) M Q) : JW X B n k2 k3 pc L (st) M Q := by
  obtain ⟨p, l, e, R, s, m, args, below, meth, c, A, D, cA, f, nL⟩ := X
  obtain ⟨hx, hb, hml, hown, hts, hK, hA, hSF, hdf, hdl⟩ := hX
  intro hrL hrS hM hSH hW H locs ls hP hS hl
  subst hL
  subst hn
  exact lv_iinc hx hb hd hl (lm_get hk) (q_add v z) hq (lm_st1 B i (vI (w32 (v + z))) L) (fun ls hl => kk (rL1 (w32_r _) hrL) hrS hM hSH hW H locs ls hP hS hl)
theorem j_iadd (hX : Ctx X cc own d) {a b : Int} (hd : decode cc pc = .ok (.iadd, 1))  (kk : JW X B n k2 k3 (pc + 1) L (vI (w32 (a + b)) :: st) M Q) : JW X B n k2 k3 pc L (vI b :: vI a :: st) M Q := by
  obtain ⟨p, l, e, R, s, m, args, below, meth, c, A, D, cA, f, nL⟩ := X
  obtain ⟨hx, hb, hml, hown, hts, hK, hA, hSF, hdf, hdl⟩ := hX
  intro hrL hrS hM hSH hW H locs ls hP hS hl
  show W p l e R s m args below meth c H locs k2 k3 Q (F0 m pc ls (.int (Int32.ofInt b) :: .int (Int32.ofInt a) :: st.map (cv B)))
  refine lv_iadd hx hb hd ?_
  rw [q_add]
  exact kk hrL (rcons (w32_r _) (rt (rt hrS))) hM hSH hW H locs ls hP hS hl
theorem j_isub (hX : Ctx X cc own d) {a b : Int} (hd : decode cc pc = .ok (.isub, 1))  (kk : JW X B n k2 k3 (pc + 1) L (vI (w32 (a - b)) :: st) M Q) : JW X B n k2 k3 pc L (vI b :: vI a :: st) M Q := by
  obtain ⟨p, l, e, R, s, m, args, below, meth, c, A, D, cA, f, nL⟩ := X
  obtain ⟨hx, hb, hml, hown, hts, hK, hA, hSF, hdf, hdl⟩ := hX
  intro hrL hrS hM hSH hW H locs ls hP hS hl
  show W p l e R s m args below meth c H locs k2 k3 Q (F0 m pc ls (.int (Int32.ofInt b) :: .int (Int32.ofInt a) :: st.map (cv B)))
  refine lv_isub hx hb hd ?_
  rw [q_sub]
  exact kk hrL (rcons (w32_r _) (rt (rt hrS))) hM hSH hW H locs ls hP hS hl
theorem j_imul (hX : Ctx X cc own d) {a b : Int} (hd : decode cc pc = .ok (.imul, 1))  (kk : JW X B n k2 k3 (pc + 1) L (vI (w32 (a * b)) :: st) M Q) : JW X B n k2 k3 pc L (vI b :: vI a :: st) M Q := by
  obtain ⟨p, l, e, R, s, m, args, below, meth, c, A, D, cA, f, nL⟩ := X
  obtain ⟨hx, hb, hml, hown, hts, hK, hA, hSF, hdf, hdl⟩ := hX
  intro hrL hrS hM hSH hW H locs ls hP hS hl
  show W p l e R s m args below meth c H locs k2 k3 Q (F0 m pc ls (.int (Int32.ofInt b) :: .int (Int32.ofInt a) :: st.map (cv B)))
  refine lv_imul hx hb hd ?_
  rw [q_mul]
  exact kk hrL (rcons (w32_r _) (rt (rt hrS))) hM hSH hW H locs ls hP hS hl
theorem j_idiv (hX : Ctx X cc own d) {a b : Int} (hd : decode cc pc = .ok (.idiv, 1)) (hz : ¬ b = 0) (kk : JW X B n k2 k3 (pc + 1) L (vI (w32 (a.tdiv b)) :: st) M Q) : JW X B n k2 k3 pc L (vI b :: vI a :: st) M Q := by
  obtain ⟨p, l, e, R, s, m, args, below, meth, c, A, D, cA, f, nL⟩ := X
  obtain ⟨hx, hb, hml, hown, hts, hK, hA, hSF, hdf, hdl⟩ := hX
  intro hrL hrS hM hSH hW H locs ls hP hS hl
  show W p l e R s m args below meth c H locs k2 k3 Q (F0 m pc ls (.int (Int32.ofInt b) :: .int (Int32.ofInt a) :: st.map (cv B)))
  refine lv_idiv hx hb hd (mt (q_eq0 (rh hrS)).mp hz) ?_
  rw [q_div (rh (rt hrS)) (rh hrS)]
  exact kk hrL (rcons (w32_r _) (rt (rt hrS))) hM hSH hW H locs ls hP hS hl
theorem j_irem (hX : Ctx X cc own d) {a b : Int} (hd : decode cc pc = .ok (.irem, 1)) (hz : ¬ b = 0) (kk : JW X B n k2 k3 (pc + 1) L (vI (a.tmod b) :: st) M Q) : JW X B n k2 k3 pc L (vI b :: vI a :: st) M Q := by
  obtain ⟨p, l, e, R, s, m, args, below, meth, c, A, D, cA, f, nL⟩ := X
  obtain ⟨hx, hb, hml, hown, hts, hK, hA, hSF, hdf, hdl⟩ := hX
  intro hrL hrS hM hSH hW H locs ls hP hS hl
  show W p l e R s m args below meth c H locs k2 k3 Q (F0 m pc ls (.int (Int32.ofInt b) :: .int (Int32.ofInt a) :: st.map (cv B)))
  refine lv_irem hx hb hd (mt (q_eq0 (rh hrS)).mp hz) ?_
  rw [q_rem (rh (rt hrS)) (rh hrS)]
  exact kk hrL (rcons (tm_r32 (rh (rt hrS)) _) (rt (rt hrS))) hM hSH hW H locs ls hP hS hl
theorem j_iand (hX : Ctx X cc own d) {a b : Int} (hd : decode cc pc = .ok (.iand, 1)) (kk : JW X B n k2 k3 (pc + 1) L (vI (o_and a b) :: st) M Q) : JW X B n k2 k3 pc L (vI b :: vI a :: st) M Q := by
  obtain ⟨p, l, e, R, s, m, args, below, meth, c, A, D, cA, f, nL⟩ := X
  obtain ⟨hx, hb, hml, hown, hts, hK, hA, hSF, hdf, hdl⟩ := hX
  intro hrL hrS hM hSH hW H locs ls hP hS hl
  show W p l e R s m args below meth c H locs k2 k3 Q (F0 m pc ls (.int (Int32.ofInt b) :: .int (Int32.ofInt a) :: st.map (cv B)))
  refine lv_iand hx hb hd ?_
  have E := kk hrL (rcons (q_r _) (rt (rt hrS))) hM hSH hW H locs ls hP hS hl
  have E2 : cv B (vI (o_and a b)) = .int _ := congrArg Value.int (q_back _)
  rw [List.map_cons, E2] at E
  exact E
theorem j_ior (hX : Ctx X cc own d) {a b : Int} (hd : decode cc pc = .ok (.ior, 1)) (kk : JW X B n k2 k3 (pc + 1) L (vI (o_or a b) :: st) M Q) : JW X B n k2 k3 pc L (vI b :: vI a :: st) M Q := by
  obtain ⟨p, l, e, R, s, m, args, below, meth, c, A, D, cA, f, nL⟩ := X
  obtain ⟨hx, hb, hml, hown, hts, hK, hA, hSF, hdf, hdl⟩ := hX
  intro hrL hrS hM hSH hW H locs ls hP hS hl
  show W p l e R s m args below meth c H locs k2 k3 Q (F0 m pc ls (.int (Int32.ofInt b) :: .int (Int32.ofInt a) :: st.map (cv B)))
  refine lv_ior hx hb hd ?_
  have E := kk hrL (rcons (q_r _) (rt (rt hrS))) hM hSH hW H locs ls hP hS hl
  have E2 : cv B (vI (o_or a b)) = .int _ := congrArg Value.int (q_back _)
  rw [List.map_cons, E2] at E
  exact E
theorem j_ixor (hX : Ctx X cc own d) {a b : Int} (hd : decode cc pc = .ok (.ixor, 1)) (kk : JW X B n k2 k3 (pc + 1) L (vI (o_xor a b) :: st) M Q) : JW X B n k2 k3 pc L (vI b :: vI a :: st) M Q := by
  obtain ⟨p, l, e, R, s, m, args, below, meth, c, A, D, cA, f, nL⟩ := X
  obtain ⟨hx, hb, hml, hown, hts, hK, hA, hSF, hdf, hdl⟩ := hX
  intro hrL hrS hM hSH hW H locs ls hP hS hl
  show W p l e R s m args below meth c H locs k2 k3 Q (F0 m pc ls (.int (Int32.ofInt b) :: .int (Int32.ofInt a) :: st.map (cv B)))
  refine lv_ixor hx hb hd ?_
  have E := kk hrL (rcons (q_r _) (rt (rt hrS))) hM hSH hW H locs ls hP hS hl
  have E2 : cv B (vI (o_xor a b)) = .int _ := congrArg Value.int (q_back _)
  rw [List.map_cons, E2] at E
  exact E
theorem j_ishl (hX : Ctx X cc own d) {a b : Int} (hd : decode cc pc = .ok (.ishl, 1)) (kk : JW X B n k2 k3 (pc + 1) L (vI (o_shl a b) :: st) M Q) : JW X B n k2 k3 pc L (vI b :: vI a :: st) M Q := by
  obtain ⟨p, l, e, R, s, m, args, below, meth, c, A, D, cA, f, nL⟩ := X
  obtain ⟨hx, hb, hml, hown, hts, hK, hA, hSF, hdf, hdl⟩ := hX
  intro hrL hrS hM hSH hW H locs ls hP hS hl
  show W p l e R s m args below meth c H locs k2 k3 Q (F0 m pc ls (.int (Int32.ofInt b) :: .int (Int32.ofInt a) :: st.map (cv B)))
  refine lv_ishl hx hb hd ?_
  have E := kk hrL (rcons (q_r _) (rt (rt hrS))) hM hSH hW H locs ls hP hS hl
  have E2 : cv B (vI (o_shl a b)) = .int _ := congrArg Value.int (q_back _)
  rw [List.map_cons, E2] at E
  exact E
theorem j_ishr (hX : Ctx X cc own d) {a b : Int} (hd : decode cc pc = .ok (.ishr, 1)) (kk : JW X B n k2 k3 (pc + 1) L (vI (o_shr a b) :: st) M Q) : JW X B n k2 k3 pc L (vI b :: vI a :: st) M Q := by
  obtain ⟨p, l, e, R, s, m, args, below, meth, c, A, D, cA, f, nL⟩ := X
  obtain ⟨hx, hb, hml, hown, hts, hK, hA, hSF, hdf, hdl⟩ := hX
  intro hrL hrS hM hSH hW H locs ls hP hS hl
  show W p l e R s m args below meth c H locs k2 k3 Q (F0 m pc ls (.int (Int32.ofInt b) :: .int (Int32.ofInt a) :: st.map (cv B)))
  refine lv_ishr hx hb hd ?_
  have E := kk hrL (rcons (q_r _) (rt (rt hrS))) hM hSH hW H locs ls hP hS hl
  have E2 : cv B (vI (o_shr a b)) = .int _ := congrArg Value.int (q_back _)
  rw [List.map_cons, E2] at E
  exact E
theorem j_iushr (hX : Ctx X cc own d) {a b : Int} (hd : decode cc pc = .ok (.iushr, 1)) (kk : JW X B n k2 k3 (pc + 1) L (vI (o_ush a b) :: st) M Q) : JW X B n k2 k3 pc L (vI b :: vI a :: st) M Q := by
  obtain ⟨p, l, e, R, s, m, args, below, meth, c, A, D, cA, f, nL⟩ := X
  obtain ⟨hx, hb, hml, hown, hts, hK, hA, hSF, hdf, hdl⟩ := hX
  intro hrL hrS hM hSH hW H locs ls hP hS hl
  show W p l e R s m args below meth c H locs k2 k3 Q (F0 m pc ls (.int (Int32.ofInt b) :: .int (Int32.ofInt a) :: st.map (cv B)))
  exact lv_iushr hx hb hd (q_back _).symm (kk hrL (rcons (q_r _) (rt (rt hrS))) hM hSH hW H locs ls hP hS hl)
theorem j_ineg (hX : Ctx X cc own d) {a : Int} (hd : decode cc pc = .ok (.ineg, 1)) (kk : JW X B n k2 k3 (pc + 1) L (vI (w32 (-a)) :: st) M Q) : JW X B n k2 k3 pc L (vI a :: st) M Q := by
  obtain ⟨p, l, e, R, s, m, args, below, meth, c, A, D, cA, f, nL⟩ := X
  obtain ⟨hx, hb, hml, hown, hts, hK, hA, hSF, hdf, hdl⟩ := hX
  intro hrL hrS hM hSH hW H locs ls hP hS hl
  show W p l e R s m args below meth c H locs k2 k3 Q (F0 m pc ls (.int (Int32.ofInt a) :: st.map (cv B)))
  refine lv_ineg hx hb hd ?_
  rw [q_neg]
  exact kk hrL (rcons (w32_r _) (rt hrS)) hM hSH hW H locs ls hP hS hl
theorem j_i2b (hX : Ctx X cc own d) {a : Int} (hd : decode cc pc = .ok (.i2b, 1)) (kk : JW X B n k2 k3 (pc + 1) L (vI (w8 a) :: st) M Q) : JW X B n k2 k3 pc L (vI a :: st) M Q := by
  obtain ⟨p, l, e, R, s, m, args, below, meth, c, A, D, cA, f, nL⟩ := X
  obtain ⟨hx, hb, hml, hown, hts, hK, hA, hSF, hdf, hdl⟩ := hX
  intro hrL hrS hM hSH hW H locs ls hP hS hl
  show W p l e R s m args below meth c H locs k2 k3 Q (F0 m pc ls (.int (Int32.ofInt a) :: st.map (cv B)))
  exact lv_i2b hx hb hd (q_eq (by rw [q_i8 (Int32.ofInt a), q_bm8, q_id (rh hrS), q_id (w8_r _)])) (kk hrL (rcons (w8_r _) (rt hrS)) hM hSH hW H locs ls hP hS hl)
theorem j_i2s (hX : Ctx X cc own d) {a : Int} (hd : decode cc pc = .ok (.i2s, 1)) (kk : JW X B n k2 k3 (pc + 1) L (vI (w16 a) :: st) M Q) : JW X B n k2 k3 pc L (vI a :: st) M Q := by
  obtain ⟨p, l, e, R, s, m, args, below, meth, c, A, D, cA, f, nL⟩ := X
  obtain ⟨hx, hb, hml, hown, hts, hK, hA, hSF, hdf, hdl⟩ := hX
  intro hrL hrS hM hSH hW H locs ls hP hS hl
  show W p l e R s m args below meth c H locs k2 k3 Q (F0 m pc ls (.int (Int32.ofInt a) :: st.map (cv B)))
  exact lv_i2s hx hb hd (q_eq (by rw [q_i16 (Int32.ofInt a), q_bm16, q_id (rh hrS), q_id (w16_r _)])) (kk hrL (rcons (w16_r _) (rt hrS)) hM hSH hW H locs ls hP hS hl)
theorem j_i2c (hX : Ctx X cc own d) {a : Int} (hd : decode cc pc = .ok (.i2c, 1)) (kk : JW X B n k2 k3 (pc + 1) L (vI (o_chr a) :: st) M Q) : JW X B n k2 k3 pc L (vI a :: st) M Q := by
  obtain ⟨p, l, e, R, s, m, args, below, meth, c, A, D, cA, f, nL⟩ := X
  obtain ⟨hx, hb, hml, hown, hts, hK, hA, hSF, hdf, hdl⟩ := hX
  intro hrL hrS hM hSH hW H locs ls hP hS hl
  show W p l e R s m args below meth c H locs k2 k3 Q (F0 m pc ls (.int (Int32.ofInt a) :: st.map (cv B)))
  exact lv_i2c hx hb hd ((q_back _).symm) (kk hrL (rcons (q_r _) (rt hrS)) hM hSH hW H locs ls hP hS hl)
theorem j_i2l (hX : Ctx X cc own d) {a : Int} (hd : decode cc pc = .ok (.i2l, 1)) (kk : JW X B n k2 k3 (pc + 1) L (vL (a) :: st) M Q) : JW X B n k2 k3 pc L (vI a :: st) M Q := by
  obtain ⟨p, l, e, R, s, m, args, below, meth, c, A, D, cA, f, nL⟩ := X
  obtain ⟨hx, hb, hml, hown, hts, hK, hA, hSF, hdf, hdl⟩ := hX
  intro hrL hrS hM hSH hW H locs ls hP hS hl
  show W p l e R s m args below meth c H locs k2 k3 Q (F0 m pc ls (.int (Int32.ofInt a) :: st.map (cv B)))
  exact lv_i2l hx hb hd (q_eql (by rw [show (Int32.ofInt a).toInt64.toInt = (Int32.ofInt a).toInt from by first | exact Int32.toInt_toInt64 _ | simp, q_id (rh hrS), q_ld (by have h := rh hrS; unfold rg r32 at h; unfold r64; omega)])) (kk hrL (rcons (by have h := rh hrS; unfold rg r32 at h; unfold rg r64; omega) (rt hrS)) hM hSH hW H locs ls hP hS hl)
theorem j_l2i (hX : Ctx X cc own d) {a : Int} (hd : decode cc pc = .ok (.l2i, 1)) (kk : JW X B n k2 k3 (pc + 1) L (vI (w32 a) :: st) M Q) : JW X B n k2 k3 pc L (vL a :: st) M Q := by
  obtain ⟨p, l, e, R, s, m, args, below, meth, c, A, D, cA, f, nL⟩ := X
  obtain ⟨hx, hb, hml, hown, hts, hK, hA, hSF, hdf, hdl⟩ := hX
  intro hrL hrS hM hSH hW H locs ls hP hS hl
  show W p l e R s m args below meth c H locs k2 k3 Q (F0 m pc ls (.long (Int64.ofInt a) :: st.map (cv B)))
  exact lv_l2i hx hb hd (q_eq (by rw [show (Int64.ofInt a).toInt32.toInt = (Int64.ofInt a).toInt.bmod (2^32) from by first | exact Int64.toInt_toInt32 _ | simp, q_bm32, q_ld (rh hrS), q_id (w32_r _)])) (kk hrL (rcons (w32_r _) (rt hrS)) hM hSH hW H locs ls hP hS hl)
theorem j_ladd (hX : Ctx X cc own d) {a b : Int} (hd : decode cc pc = .ok (.ladd, 1))  (kk : JW X B n k2 k3 (pc + 1) L (vL (w64 (a + b)) :: st) M Q) : JW X B n k2 k3 pc L (vL b :: vL a :: st) M Q := by
  obtain ⟨p, l, e, R, s, m, args, below, meth, c, A, D, cA, f, nL⟩ := X
  obtain ⟨hx, hb, hml, hown, hts, hK, hA, hSF, hdf, hdl⟩ := hX
  intro hrL hrS hM hSH hW H locs ls hP hS hl
  show W p l e R s m args below meth c H locs k2 k3 Q (F0 m pc ls (.long (Int64.ofInt b) :: .long (Int64.ofInt a) :: st.map (cv B)))
  refine lv_ladd hx hb hd ?_
  rw [q_ladd]
  exact kk hrL (rcons (w64_r _) (rt (rt hrS))) hM hSH hW H locs ls hP hS hl
theorem j_lsub (hX : Ctx X cc own d) {a b : Int} (hd : decode cc pc = .ok (.lsub, 1))  (kk : JW X B n k2 k3 (pc + 1) L (vL (w64 (a - b)) :: st) M Q) : JW X B n k2 k3 pc L (vL b :: vL a :: st) M Q := by
  obtain ⟨p, l, e, R, s, m, args, below, meth, c, A, D, cA, f, nL⟩ := X
  obtain ⟨hx, hb, hml, hown, hts, hK, hA, hSF, hdf, hdl⟩ := hX
  intro hrL hrS hM hSH hW H locs ls hP hS hl
  show W p l e R s m args below meth c H locs k2 k3 Q (F0 m pc ls (.long (Int64.ofInt b) :: .long (Int64.ofInt a) :: st.map (cv B)))
  refine lv_lsub hx hb hd ?_
  rw [q_lsub]
  exact kk hrL (rcons (w64_r _) (rt (rt hrS))) hM hSH hW H locs ls hP hS hl
theorem j_lmul (hX : Ctx X cc own d) {a b : Int} (hd : decode cc pc = .ok (.lmul, 1))  (kk : JW X B n k2 k3 (pc + 1) L (vL (w64 (a * b)) :: st) M Q) : JW X B n k2 k3 pc L (vL b :: vL a :: st) M Q := by
  obtain ⟨p, l, e, R, s, m, args, below, meth, c, A, D, cA, f, nL⟩ := X
  obtain ⟨hx, hb, hml, hown, hts, hK, hA, hSF, hdf, hdl⟩ := hX
  intro hrL hrS hM hSH hW H locs ls hP hS hl
  show W p l e R s m args below meth c H locs k2 k3 Q (F0 m pc ls (.long (Int64.ofInt b) :: .long (Int64.ofInt a) :: st.map (cv B)))
  refine lv_lmul hx hb hd ?_
  rw [q_lmul]
  exact kk hrL (rcons (w64_r _) (rt (rt hrS))) hM hSH hW H locs ls hP hS hl
theorem j_ldiv (hX : Ctx X cc own d) {a b : Int} (hd : decode cc pc = .ok (.ldiv, 1)) (hz : ¬ b = 0) (kk : JW X B n k2 k3 (pc + 1) L (vL (w64 (a.tdiv b)) :: st) M Q) : JW X B n k2 k3 pc L (vL b :: vL a :: st) M Q := by
  obtain ⟨p, l, e, R, s, m, args, below, meth, c, A, D, cA, f, nL⟩ := X
  obtain ⟨hx, hb, hml, hown, hts, hK, hA, hSF, hdf, hdl⟩ := hX
  intro hrL hrS hM hSH hW H locs ls hP hS hl
  show W p l e R s m args below meth c H locs k2 k3 Q (F0 m pc ls (.long (Int64.ofInt b) :: .long (Int64.ofInt a) :: st.map (cv B)))
  refine lv_ldiv hx hb hd (mt (q_leq0 (rh hrS)).mp hz) ?_
  rw [q_ldiv (rh (rt hrS)) (rh hrS)]
  exact kk hrL (rcons (w64_r _) (rt (rt hrS))) hM hSH hW H locs ls hP hS hl
theorem j_lrem (hX : Ctx X cc own d) {a b : Int} (hd : decode cc pc = .ok (.lrem, 1)) (hz : ¬ b = 0) (kk : JW X B n k2 k3 (pc + 1) L (vL (a.tmod b) :: st) M Q) : JW X B n k2 k3 pc L (vL b :: vL a :: st) M Q := by
  obtain ⟨p, l, e, R, s, m, args, below, meth, c, A, D, cA, f, nL⟩ := X
  obtain ⟨hx, hb, hml, hown, hts, hK, hA, hSF, hdf, hdl⟩ := hX
  intro hrL hrS hM hSH hW H locs ls hP hS hl
  show W p l e R s m args below meth c H locs k2 k3 Q (F0 m pc ls (.long (Int64.ofInt b) :: .long (Int64.ofInt a) :: st.map (cv B)))
  refine lv_lrem hx hb hd (mt (q_leq0 (rh hrS)).mp hz) ?_
  rw [q_lrem (rh (rt hrS)) (rh hrS)]
  exact kk hrL (rcons (tm_r64 (rh (rt hrS)) _) (rt (rt hrS))) hM hSH hW H locs ls hP hS hl
theorem j_land (hX : Ctx X cc own d) {a b : Int} (hd : decode cc pc = .ok (.land, 1)) (kk : JW X B n k2 k3 (pc + 1) L (vL (o_land a b) :: st) M Q) : JW X B n k2 k3 pc L (vL b :: vL a :: st) M Q := by
  obtain ⟨p, l, e, R, s, m, args, below, meth, c, A, D, cA, f, nL⟩ := X
  obtain ⟨hx, hb, hml, hown, hts, hK, hA, hSF, hdf, hdl⟩ := hX
  intro hrL hrS hM hSH hW H locs ls hP hS hl
  show W p l e R s m args below meth c H locs k2 k3 Q (F0 m pc ls (.long (Int64.ofInt b) :: .long (Int64.ofInt a) :: st.map (cv B)))
  refine lv_land hx hb hd ?_
  have E := kk hrL (rcons (q_rl _) (rt (rt hrS))) hM hSH hW H locs ls hP hS hl
  have E2 : cv B (vL (o_land a b)) = .long _ := congrArg Value.long (q_backl _)
  rw [List.map_cons, E2] at E
  exact E
theorem j_lor (hX : Ctx X cc own d) {a b : Int} (hd : decode cc pc = .ok (.lor, 1)) (kk : JW X B n k2 k3 (pc + 1) L (vL (o_lor a b) :: st) M Q) : JW X B n k2 k3 pc L (vL b :: vL a :: st) M Q := by
  obtain ⟨p, l, e, R, s, m, args, below, meth, c, A, D, cA, f, nL⟩ := X
  obtain ⟨hx, hb, hml, hown, hts, hK, hA, hSF, hdf, hdl⟩ := hX
  intro hrL hrS hM hSH hW H locs ls hP hS hl
  show W p l e R s m args below meth c H locs k2 k3 Q (F0 m pc ls (.long (Int64.ofInt b) :: .long (Int64.ofInt a) :: st.map (cv B)))
  refine lv_lor hx hb hd ?_
  have E := kk hrL (rcons (q_rl _) (rt (rt hrS))) hM hSH hW H locs ls hP hS hl
  have E2 : cv B (vL (o_lor a b)) = .long _ := congrArg Value.long (q_backl _)
  rw [List.map_cons, E2] at E
  exact E
theorem j_lshl (hX : Ctx X cc own d) {a b : Int} (hd : decode cc pc = .ok (.lshl, 1)) (kk : JW X B n k2 k3 (pc + 1) L (vL (o_lshl a b) :: st) M Q) : JW X B n k2 k3 pc L (vI b :: vL a :: st) M Q := by
  obtain ⟨p, l, e, R, s, m, args, below, meth, c, A, D, cA, f, nL⟩ := X
  obtain ⟨hx, hb, hml, hown, hts, hK, hA, hSF, hdf, hdl⟩ := hX
  intro hrL hrS hM hSH hW H locs ls hP hS hl
  show W p l e R s m args below meth c H locs k2 k3 Q (F0 m pc ls (.int (Int32.ofInt b) :: .long (Int64.ofInt a) :: st.map (cv B)))
  exact lv_lshl hx hb hd (q_backl _).symm (kk hrL (rcons (q_rl _) (rt (rt hrS))) hM hSH hW H locs ls hP hS hl)
theorem j_lshr (hX : Ctx X cc own d) {a b : Int} (hd : decode cc pc = .ok (.lshr, 1)) (kk : JW X B n k2 k3 (pc + 1) L (vL (o_lshr a b) :: st) M Q) : JW X B n k2 k3 pc L (vI b :: vL a :: st) M Q := by
  obtain ⟨p, l, e, R, s, m, args, below, meth, c, A, D, cA, f, nL⟩ := X
  obtain ⟨hx, hb, hml, hown, hts, hK, hA, hSF, hdf, hdl⟩ := hX
  intro hrL hrS hM hSH hW H locs ls hP hS hl
  show W p l e R s m args below meth c H locs k2 k3 Q (F0 m pc ls (.int (Int32.ofInt b) :: .long (Int64.ofInt a) :: st.map (cv B)))
  exact lv_lshr hx hb hd (q_backl _).symm (kk hrL (rcons (q_rl _) (rt (rt hrS))) hM hSH hW H locs ls hP hS hl)
theorem j_lcmp (hX : Ctx X cc own d) {a b : Int} (hd : decode cc pc = .ok (.lcmp, 1)) (kk : JW X B n k2 k3 (pc + 1) L (vI (lcm a b) :: st) M Q) : JW X B n k2 k3 pc L (vL b :: vL a :: st) M Q := by
  obtain ⟨p, l, e, R, s, m, args, below, meth, c, A, D, cA, f, nL⟩ := X
  obtain ⟨hx, hb, hml, hown, hts, hK, hA, hSF, hdf, hdl⟩ := hX
  intro hrL hrS hM hSH hW H locs ls hP hS hl
  show W p l e R s m args below meth c H locs k2 k3 Q (F0 m pc ls (.long (Int64.ofInt b) :: .long (Int64.ofInt a) :: st.map (cv B)))
  refine W.lcmp hx hb hd ?_
  rw [q_cmp (rh (rt hrS)) (rh hrS)]
  exact kk hrL (rcons (lcm_r _ _) (rt (rt hrS))) hM hSH hW H locs ls hP hS hl
theorem j_dup (hX : Ctx X cc own d) {v : AV} (hd : decode cc pc = .ok (.dup, 1)) (hc : ct v = 1) (kk : JW X B n k2 k3 (pc + 1) L (v :: v :: st) M Q) : JW X B n k2 k3 pc L (v :: st) M Q := by
  obtain ⟨p, l, e, R, s, m, args, below, meth, c, A, D, cA, f, nL⟩ := X
  obtain ⟨hx, hb, hml, hown, hts, hK, hA, hSF, hdf, hdl⟩ := hX
  intro hrL hrS hM hSH hW H locs ls hP hS hl
  exact lv_dup hx hb hd ((cv_ct B v).trans hc) (kk hrL (rcons (rh hrS) hrS) hM hSH hW H locs ls hP hS hl)
theorem j_dup_x1 (hX : Ctx X cc own d) {v u : AV} (hd : decode cc pc = .ok (.dup_x1, 1)) (hc : ct v = 1) (hu : ct u = 1) (kk : JW X B n k2 k3 (pc + 1) L (v :: u :: v :: st) M Q) : JW X B n k2 k3 pc L (v :: u :: st) M Q := by
  obtain ⟨p, l, e, R, s, m, args, below, meth, c, A, D, cA, f, nL⟩ := X
  obtain ⟨hx, hb, hml, hown, hts, hK, hA, hSF, hdf, hdl⟩ := hX
  intro hrL hrS hM hSH hW H locs ls hP hS hl
  exact lv_dup_x1 hx hb hd ((cv_ct B v).trans hc) ((cv_ct B u).trans hu) (kk hrL (rcons (rh hrS) (rcons (rh (rt hrS)) (rcons (rh hrS) (rt (rt hrS))))) hM hSH hW H locs ls hP hS hl)
theorem j_dup2 (hX : Ctx X cc own d) {v u : AV} (hd : decode cc pc = .ok (.dup2, 1)) (hc : ct v = 1) (hu : ct u = 1) (kk : JW X B n k2 k3 (pc + 1) L (v :: u :: v :: u :: st) M Q) : JW X B n k2 k3 pc L (v :: u :: st) M Q := by
  obtain ⟨p, l, e, R, s, m, args, below, meth, c, A, D, cA, f, nL⟩ := X
  obtain ⟨hx, hb, hml, hown, hts, hK, hA, hSF, hdf, hdl⟩ := hX
  intro hrL hrS hM hSH hW H locs ls hP hS hl
  exact lv_dup2_11 hx hb hd ((cv_ct B v).trans hc) ((cv_ct B u).trans hu) (kk hrL (rcons (rh hrS) (rcons (rh (rt hrS)) hrS)) hM hSH hW H locs ls hP hS hl)
theorem j_pop (hX : Ctx X cc own d) {v : AV} (hd : decode cc pc = .ok (.pop, 1)) (hc : ct v = 1) (kk : JW X B n k2 k3 (pc + 1) L (st) M Q) : JW X B n k2 k3 pc L (v :: st) M Q := by
  obtain ⟨p, l, e, R, s, m, args, below, meth, c, A, D, cA, f, nL⟩ := X
  obtain ⟨hx, hb, hml, hown, hts, hK, hA, hSF, hdf, hdl⟩ := hX
  intro hrL hrS hM hSH hW H locs ls hP hS hl
  exact lv_pop hx hb hd ((cv_ct B v).trans hc) (kk hrL (rt hrS) hM hSH hW H locs ls hP hS hl)
theorem j_goto (hX : Ctx X cc own d) {off : Int} {tgt : Nat} (hd : decode cc pc = .ok (.goto off, 3)) (ht : (pc : Int) + off = (tgt : Int)) (kk : JW X B n k2 k3 (tgt) L (st) M Q) : JW X B n k2 k3 pc L (st) M Q := by
  obtain ⟨p, l, e, R, s, m, args, below, meth, c, A, D, cA, f, nL⟩ := X
  obtain ⟨hx, hb, hml, hown, hts, hK, hA, hSF, hdf, hdl⟩ := hX
  intro hrL hrS hM hSH hW H locs ls hP hS hl
  exact lv_goto hx hb hd ht (kk hrL (hrS) hM hSH hW H locs ls hP hS hl)
theorem j_icmp_lt (hX : Ctx X cc own d) {a b : Int} {off : Int} {tgt : Nat} (hd : decode cc pc = .ok (.if_icmp .lt off, 3)) (ht : (pc : Int) + off = (tgt : Int)) (kt : a < b → JW X B n k2 k3 tgt L st M Q) (kf : ¬ a < b → JW X B n k2 k3 (pc + 3) L st M Q) : JW X B n k2 k3 pc L (vI b :: vI a :: st) M Q := by
  obtain ⟨p, l, e, R, s, m, args, below, meth, c, A, D, cA, f, nL⟩ := X
  obtain ⟨hx, hb, hml, hown, hts, hK, hA, hSF, hdf, hdl⟩ := hX
  intro hrL hrS hM hSH hW H locs ls hP hS hl
  show W p l e R s m args below meth c H locs k2 k3 Q (F0 m pc ls (.int (Int32.ofInt b) :: .int (Int32.ofInt a) :: st.map (cv B)))
  exact lv_icmp_lt hx hb hd ht (fun h => kt ((q_lt (rh (rt hrS)) (rh hrS)).mp h) hrL (rt (rt hrS)) hM hSH hW H locs ls hP hS hl) (fun h => kf (mt (q_lt (rh (rt hrS)) (rh hrS)).mpr h) hrL (rt (rt hrS)) hM hSH hW H locs ls hP hS hl)
theorem j_icmp_ge (hX : Ctx X cc own d) {a b : Int} {off : Int} {tgt : Nat} (hd : decode cc pc = .ok (.if_icmp .ge off, 3)) (ht : (pc : Int) + off = (tgt : Int)) (kt : b ≤ a → JW X B n k2 k3 tgt L st M Q) (kf : ¬ b ≤ a → JW X B n k2 k3 (pc + 3) L st M Q) : JW X B n k2 k3 pc L (vI b :: vI a :: st) M Q := by
  obtain ⟨p, l, e, R, s, m, args, below, meth, c, A, D, cA, f, nL⟩ := X
  obtain ⟨hx, hb, hml, hown, hts, hK, hA, hSF, hdf, hdl⟩ := hX
  intro hrL hrS hM hSH hW H locs ls hP hS hl
  show W p l e R s m args below meth c H locs k2 k3 Q (F0 m pc ls (.int (Int32.ofInt b) :: .int (Int32.ofInt a) :: st.map (cv B)))
  exact lv_icmp_ge hx hb hd ht (fun h => kt ((q_le (rh hrS) (rh (rt hrS))).mp h) hrL (rt (rt hrS)) hM hSH hW H locs ls hP hS hl) (fun h => kf (mt (q_le (rh hrS) (rh (rt hrS))).mpr h) hrL (rt (rt hrS)) hM hSH hW H locs ls hP hS hl)
theorem j_icmp_gt (hX : Ctx X cc own d) {a b : Int} {off : Int} {tgt : Nat} (hd : decode cc pc = .ok (.if_icmp .gt off, 3)) (ht : (pc : Int) + off = (tgt : Int)) (kt : b < a → JW X B n k2 k3 tgt L st M Q) (kf : ¬ b < a → JW X B n k2 k3 (pc + 3) L st M Q) : JW X B n k2 k3 pc L (vI b :: vI a :: st) M Q := by
  obtain ⟨p, l, e, R, s, m, args, below, meth, c, A, D, cA, f, nL⟩ := X
  obtain ⟨hx, hb, hml, hown, hts, hK, hA, hSF, hdf, hdl⟩ := hX
  intro hrL hrS hM hSH hW H locs ls hP hS hl
  show W p l e R s m args below meth c H locs k2 k3 Q (F0 m pc ls (.int (Int32.ofInt b) :: .int (Int32.ofInt a) :: st.map (cv B)))
  exact lv_icmp_gt hx hb hd ht (fun h => kt ((q_lt (rh hrS) (rh (rt hrS))).mp h) hrL (rt (rt hrS)) hM hSH hW H locs ls hP hS hl) (fun h => kf (mt (q_lt (rh hrS) (rh (rt hrS))).mpr h) hrL (rt (rt hrS)) hM hSH hW H locs ls hP hS hl)
theorem j_icmp_le (hX : Ctx X cc own d) {a b : Int} {off : Int} {tgt : Nat} (hd : decode cc pc = .ok (.if_icmp .le off, 3)) (ht : (pc : Int) + off = (tgt : Int)) (kt : a ≤ b → JW X B n k2 k3 tgt L st M Q) (kf : ¬ a ≤ b → JW X B n k2 k3 (pc + 3) L st M Q) : JW X B n k2 k3 pc L (vI b :: vI a :: st) M Q := by
  obtain ⟨p, l, e, R, s, m, args, below, meth, c, A, D, cA, f, nL⟩ := X
  obtain ⟨hx, hb, hml, hown, hts, hK, hA, hSF, hdf, hdl⟩ := hX
  intro hrL hrS hM hSH hW H locs ls hP hS hl
  show W p l e R s m args below meth c H locs k2 k3 Q (F0 m pc ls (.int (Int32.ofInt b) :: .int (Int32.ofInt a) :: st.map (cv B)))
  exact lv_icmp_le hx hb hd ht (fun h => kt ((q_le (rh (rt hrS)) (rh hrS)).mp h) hrL (rt (rt hrS)) hM hSH hW H locs ls hP hS hl) (fun h => kf (mt (q_le (rh (rt hrS)) (rh hrS)).mpr h) hrL (rt (rt hrS)) hM hSH hW H locs ls hP hS hl)
theorem j_icmp_eq (hX : Ctx X cc own d) {a b : Int} {off : Int} {tgt : Nat} (hd : decode cc pc = .ok (.if_icmp .eq off, 3)) (ht : (pc : Int) + off = (tgt : Int)) (kt : a = b → JW X B n k2 k3 tgt L st M Q) (kf : ¬ a = b → JW X B n k2 k3 (pc + 3) L st M Q) : JW X B n k2 k3 pc L (vI b :: vI a :: st) M Q := by
  obtain ⟨p, l, e, R, s, m, args, below, meth, c, A, D, cA, f, nL⟩ := X
  obtain ⟨hx, hb, hml, hown, hts, hK, hA, hSF, hdf, hdl⟩ := hX
  intro hrL hrS hM hSH hW H locs ls hP hS hl
  show W p l e R s m args below meth c H locs k2 k3 Q (F0 m pc ls (.int (Int32.ofInt b) :: .int (Int32.ofInt a) :: st.map (cv B)))
  exact lv_icmp_eq hx hb hd ht (fun h => kt ((q_eqi (rh (rt hrS)) (rh hrS)).mp h) hrL (rt (rt hrS)) hM hSH hW H locs ls hP hS hl) (fun h => kf (mt (q_eqi (rh (rt hrS)) (rh hrS)).mpr h) hrL (rt (rt hrS)) hM hSH hW H locs ls hP hS hl)
theorem j_icmp_ne (hX : Ctx X cc own d) {a b : Int} {off : Int} {tgt : Nat} (hd : decode cc pc = .ok (.if_icmp .ne off, 3)) (ht : (pc : Int) + off = (tgt : Int)) (kt : ¬ a = b → JW X B n k2 k3 tgt L st M Q) (kf : a = b → JW X B n k2 k3 (pc + 3) L st M Q) : JW X B n k2 k3 pc L (vI b :: vI a :: st) M Q := by
  obtain ⟨p, l, e, R, s, m, args, below, meth, c, A, D, cA, f, nL⟩ := X
  obtain ⟨hx, hb, hml, hown, hts, hK, hA, hSF, hdf, hdl⟩ := hX
  intro hrL hrS hM hSH hW H locs ls hP hS hl
  show W p l e R s m args below meth c H locs k2 k3 Q (F0 m pc ls (.int (Int32.ofInt b) :: .int (Int32.ofInt a) :: st.map (cv B)))
  exact lv_icmp_ne hx hb hd ht (fun h => kt (mt (q_eqi (rh (rt hrS)) (rh hrS)).mpr h) hrL (rt (rt hrS)) hM hSH hW H locs ls hP hS hl) (fun h => kf ((q_eqi (rh (rt hrS)) (rh hrS)).mp h) hrL (rt (rt hrS)) hM hSH hW H locs ls hP hS hl)
theorem j_if_lt (hX : Ctx X cc own d) {a : Int} {off : Int} {tgt : Nat} (hd : decode cc pc = .ok (.ifCond .lt off, 3)) (ht : (pc : Int) + off = (tgt : Int)) (kt : a < 0 → JW X B n k2 k3 tgt L st M Q) (kf : ¬ a < 0 → JW X B n k2 k3 (pc + 3) L st M Q) : JW X B n k2 k3 pc L (vI a :: st) M Q := by
  obtain ⟨p, l, e, R, s, m, args, below, meth, c, A, D, cA, f, nL⟩ := X
  obtain ⟨hx, hb, hml, hown, hts, hK, hA, hSF, hdf, hdl⟩ := hX
  intro hrL hrS hM hSH hW H locs ls hP hS hl
  show W p l e R s m args below meth c H locs k2 k3 Q (F0 m pc ls (.int (Int32.ofInt a) :: st.map (cv B)))
  exact lv_if_lt hx hb hd ht (fun h => kt ((q_lt0 (rh hrS)).mp h) hrL (rt hrS) hM hSH hW H locs ls hP hS hl) (fun h => kf (mt (q_lt0 (rh hrS)).mpr h) hrL (rt hrS) hM hSH hW H locs ls hP hS hl)
theorem j_if_ge (hX : Ctx X cc own d) {a : Int} {off : Int} {tgt : Nat} (hd : decode cc pc = .ok (.ifCond .ge off, 3)) (ht : (pc : Int) + off = (tgt : Int)) (kt : 0 ≤ a → JW X B n k2 k3 tgt L st M Q) (kf : ¬ 0 ≤ a → JW X B n k2 k3 (pc + 3) L st M Q) : JW X B n k2 k3 pc L (vI a :: st) M Q := by
  obtain ⟨p, l, e, R, s, m, args, below, meth, c, A, D, cA, f, nL⟩ := X
  obtain ⟨hx, hb, hml, hown, hts, hK, hA, hSF, hdf, hdl⟩ := hX
  intro hrL hrS hM hSH hW H locs ls hP hS hl
  show W p l e R s m args below meth c H locs k2 k3 Q (F0 m pc ls (.int (Int32.ofInt a) :: st.map (cv B)))
  exact lv_if_ge hx hb hd ht (fun h => kt ((q_0le (rh hrS)).mp h) hrL (rt hrS) hM hSH hW H locs ls hP hS hl) (fun h => kf (mt (q_0le (rh hrS)).mpr h) hrL (rt hrS) hM hSH hW H locs ls hP hS hl)
theorem j_if_gt (hX : Ctx X cc own d) {a : Int} {off : Int} {tgt : Nat} (hd : decode cc pc = .ok (.ifCond .gt off, 3)) (ht : (pc : Int) + off = (tgt : Int)) (kt : 0 < a → JW X B n k2 k3 tgt L st M Q) (kf : ¬ 0 < a → JW X B n k2 k3 (pc + 3) L st M Q) : JW X B n k2 k3 pc L (vI a :: st) M Q := by
  obtain ⟨p, l, e, R, s, m, args, below, meth, c, A, D, cA, f, nL⟩ := X
  obtain ⟨hx, hb, hml, hown, hts, hK, hA, hSF, hdf, hdl⟩ := hX
  intro hrL hrS hM hSH hW H locs ls hP hS hl
  show W p l e R s m args below meth c H locs k2 k3 Q (F0 m pc ls (.int (Int32.ofInt a) :: st.map (cv B)))
  exact lv_if_gt hx hb hd ht (fun h => kt ((q_0lt (rh hrS)).mp h) hrL (rt hrS) hM hSH hW H locs ls hP hS hl) (fun h => kf (mt (q_0lt (rh hrS)).mpr h) hrL (rt hrS) hM hSH hW H locs ls hP hS hl)
theorem j_if_le (hX : Ctx X cc own d) {a : Int} {off : Int} {tgt : Nat} (hd : decode cc pc = .ok (.ifCond .le off, 3)) (ht : (pc : Int) + off = (tgt : Int)) (kt : a ≤ 0 → JW X B n k2 k3 tgt L st M Q) (kf : ¬ a ≤ 0 → JW X B n k2 k3 (pc + 3) L st M Q) : JW X B n k2 k3 pc L (vI a :: st) M Q := by
  obtain ⟨p, l, e, R, s, m, args, below, meth, c, A, D, cA, f, nL⟩ := X
  obtain ⟨hx, hb, hml, hown, hts, hK, hA, hSF, hdf, hdl⟩ := hX
  intro hrL hrS hM hSH hW H locs ls hP hS hl
  show W p l e R s m args below meth c H locs k2 k3 Q (F0 m pc ls (.int (Int32.ofInt a) :: st.map (cv B)))
  exact lv_if_le hx hb hd ht (fun h => kt ((q_le0 (rh hrS)).mp h) hrL (rt hrS) hM hSH hW H locs ls hP hS hl) (fun h => kf (mt (q_le0 (rh hrS)).mpr h) hrL (rt hrS) hM hSH hW H locs ls hP hS hl)
theorem j_if_eq (hX : Ctx X cc own d) {a : Int} {off : Int} {tgt : Nat} (hd : decode cc pc = .ok (.ifCond .eq off, 3)) (ht : (pc : Int) + off = (tgt : Int)) (kt : a = 0 → JW X B n k2 k3 tgt L st M Q) (kf : ¬ a = 0 → JW X B n k2 k3 (pc + 3) L st M Q) : JW X B n k2 k3 pc L (vI a :: st) M Q := by
  obtain ⟨p, l, e, R, s, m, args, below, meth, c, A, D, cA, f, nL⟩ := X
  obtain ⟨hx, hb, hml, hown, hts, hK, hA, hSF, hdf, hdl⟩ := hX
  intro hrL hrS hM hSH hW H locs ls hP hS hl
  show W p l e R s m args below meth c H locs k2 k3 Q (F0 m pc ls (.int (Int32.ofInt a) :: st.map (cv B)))
  exact lv_if_eq hx hb hd ht (fun h => kt ((q_eq0 (rh hrS)).mp h) hrL (rt hrS) hM hSH hW H locs ls hP hS hl) (fun h => kf (mt (q_eq0 (rh hrS)).mpr h) hrL (rt hrS) hM hSH hW H locs ls hP hS hl)
theorem j_if_ne (hX : Ctx X cc own d) {a : Int} {off : Int} {tgt : Nat} (hd : decode cc pc = .ok (.ifCond .ne off, 3)) (ht : (pc : Int) + off = (tgt : Int)) (kt : ¬ a = 0 → JW X B n k2 k3 tgt L st M Q) (kf : a = 0 → JW X B n k2 k3 (pc + 3) L st M Q) : JW X B n k2 k3 pc L (vI a :: st) M Q := by
  obtain ⟨p, l, e, R, s, m, args, below, meth, c, A, D, cA, f, nL⟩ := X
  obtain ⟨hx, hb, hml, hown, hts, hK, hA, hSF, hdf, hdl⟩ := hX
  intro hrL hrS hM hSH hW H locs ls hP hS hl
  show W p l e R s m args below meth c H locs k2 k3 Q (F0 m pc ls (.int (Int32.ofInt a) :: st.map (cv B)))
  exact lv_if_ne hx hb hd ht (fun h => kt (mt (q_eq0 (rh hrS)).mpr h) hrL (rt hrS) hM hSH hW H locs ls hP hS hl) (fun h => kf ((q_eq0 (rh hrS)).mp h) hrL (rt hrS) hM hSH hW H locs ls hP hS hl)
theorem j_tin (hX : Ctx X cc own d) {df lo hi off x z : Int} {offs : Array Int} {len tgt : Nat} (hd : decode cc pc = .ok (.tableswitch df lo hi offs, len)) (hz : x = z) (h1 : ¬ z < lo) (h2 : ¬ hi < z) (ho : offs[(z - lo).toNat]? = some off) (ht : (pc : Int) + off = (tgt : Int)) (kk : JW X B n k2 k3 (tgt) L (st) M Q) : JW X B n k2 k3 pc L (vI x :: st) M Q := by
  obtain ⟨p, l, e, R, s, m, args, below, meth, c, A, D, cA, f, nL⟩ := X
  obtain ⟨hx, hb, hml, hown, hts, hK, hA, hSF, hdf, hdl⟩ := hX
  intro hrL hrS hM hSH hW H locs ls hP hS hl
  show W p l e R s m args below meth c H locs k2 k3 Q (F0 m pc ls (.int (Int32.ofInt x) :: st.map (cv B)))
  subst hz
  exact lv_tableIn hx hb hd (by rw [q_id (rh hrS)]; exact h1) (by rw [q_id (rh hrS)]; exact h2) (by rw [q_id (rh hrS)]; exact ho) ht (kk hrL (rt hrS) hM hSH hW H locs ls hP hS hl)
theorem j_tout (hX : Ctx X cc own d) {df lo hi x : Int} {offs : Array Int} {len tgt : Nat} (hd : decode cc pc = .ok (.tableswitch df lo hi offs, len)) (h1 : x < lo ∨ hi < x) (ht : (pc : Int) + df = (tgt : Int)) (kk : JW X B n k2 k3 (tgt) L (st) M Q) : JW X B n k2 k3 pc L (vI x :: st) M Q := by
  obtain ⟨p, l, e, R, s, m, args, below, meth, c, A, D, cA, f, nL⟩ := X
  obtain ⟨hx, hb, hml, hown, hts, hK, hA, hSF, hdf, hdl⟩ := hX
  intro hrL hrS hM hSH hW H locs ls hP hS hl
  show W p l e R s m args below meth c H locs k2 k3 Q (F0 m pc ls (.int (Int32.ofInt x) :: st.map (cv B)))
  exact lv_tableOut hx hb hd (by rw [q_id (rh hrS)]; exact h1) ht (kk hrL (rt hrS) hM hSH hW H locs ls hP hS hl)
theorem j_lsw (hX : Ctx X cc own d) {df off x : Int} {ps : Array (Int × Int)} {len tgt : Nat} (hd : decode cc pc = .ok (.lookupswitch df ps, len)) (hp : (ps.toList.zip (ps.toList.drop 1)).all (fun (a, next) => a.1 < next.1) = true) (ho : Op.lookupswitch.offset ps.toList df x = off) (ht : (pc : Int) + off = (tgt : Int)) (kk : JW X B n k2 k3 (tgt) L (st) M Q) : JW X B n k2 k3 pc L (vI x :: st) M Q := by
  obtain ⟨p, l, e, R, s, m, args, below, meth, c, A, D, cA, f, nL⟩ := X
  obtain ⟨hx, hb, hml, hown, hts, hK, hA, hSF, hdf, hdl⟩ := hX
  intro hrL hrS hM hSH hW H locs ls hP hS hl
  show W p l e R s m args below meth c H locs k2 k3 Q (F0 m pc ls (.int (Int32.ofInt x) :: st.map (cv B)))
  exact lv_lookup hx hb hd hp (by rw [q_id (rh hrS)]; exact ho) ht (kk hrL (rt hrS) hM hSH hW H locs ls hP hS hl)
end JR
