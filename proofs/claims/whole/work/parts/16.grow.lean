/-! A TABLE OF ROWS IS MADE: 'new T[n][k]' as a row of the walk -/
/-- the outer row of N places at b, its first i places told: the rows behind it -/
def mzO (c : ClassId) (N b i : Nat) : Cell := { cls := c, slots := Array.ofFn (n := N) (fun j => if j.1 < i then Value.ref (b + 1 + j.1) else Value.null), vm := .none }
def mzI (comp : ClassId) (K : Nat) (dv : Value) : Cell := { cls := comp, slots := Array.replicate K dv, vm := .none }
theorem mzO_get (c : ClassId) (N b i j : Nat) (h : j < N) : (mzO c N b i).slots[j]? = some (if j < i then Value.ref (b + 1 + j) else Value.null) := by
  simp [mzO, h]
theorem mzO_size (c : ClassId) (N b i : Nat) : (mzO c N b i).slots.size = N := by simp [mzO]
theorem mzO_0 (c : ClassId) (N b : Nat) : mzO c N b 0 = { cls := c, slots := Array.replicate N Value.null, vm := .none } := by
  unfold mzO
  congr 1
  apply Array.ext
  · simp
  · intro j h1 h2
    simp
theorem mzO_set (c : ClassId) (N b i : Nat) (h : i < N) : (mzO c N b i).setSlot i (.ref (b + 1 + i)) = mzO c N b (i + 1) := by
  have e : (mzO c N b i).slots.setIfInBounds i (.ref (b + 1 + i)) = (mzO c N b (i + 1)).slots := by
    apply Array.ext_getElem?
    intro j
    by_cases hj : j < N
    · rw [mzO_get c N b (i + 1) j hj]
      by_cases e : i = j
      · subst e
        rw [Array.getElem?_setIfInBounds_self_of_lt (by rw [mzO_size]; exact h), if_pos (Nat.lt_succ_self i)]
      · rw [Array.getElem?_setIfInBounds_ne e, mzO_get c N b i j hj]
        have q : j < i ↔ j < i + 1 := ⟨fun z => by omega, fun z => by omega⟩
        simp only [q]
    · rw [Array.getElem?_eq_none (by rw [Array.size_setIfInBounds, mzO_size]; omega), Array.getElem?_eq_none (by rw [mzO_size]; omega)]
  show ({ (mzO c N b i) with slots := (mzO c N b i).slots.setIfInBounds i (.ref (b + 1 + i)) } : Cell) = _
  rw [e]
  rfl
section MZ
variable (T : State) (c comp : ClassId) (N K : Nat) (dv : Value)
def mzS : Nat → State
  | 0 => T.pushCell (mzO c N T.heap.size 0)
  | i + 1 => ((mzS i).pushCell (mzI comp K dv)).setCell T.heap.size (mzO c N T.heap.size (i + 1))
/-- after i rows: how large, what stands where -/
theorem mzS_at : ∀ i, (mzS T c comp N K dv i).heap.size = T.heap.size + 1 + i ∧ (mzS T c comp N K dv i).heap[T.heap.size]? = some (mzO c N T.heap.size i) ∧ (mzS T c comp N K dv i).vm = T.vm ∧ (mzS T c comp N K dv i).slotsUsed = T.slotsUsed + N + i * K ∧ (∀ a, a < T.heap.size → (mzS T c comp N K dv i).heap[a]? = T.heap[a]?) ∧ ∀ j, j < i → (mzS T c comp N K dv i).heap[T.heap.size + 1 + j]? = some (mzI comp K dv) := by
  intro i
  induction i with
  | zero =>
    refine ⟨by simp [mzS], by simp [mzS], rfl, by simp [mzS, mzO], fun a ha => State.heap_pushCell_of_lt _ _ ha, fun j hj => absurd hj (Nat.not_lt_zero _)⟩
  | succ i ih =>
    obtain ⟨h1, h2, h3, h4, h5, h6⟩ := ih
    have hlt : T.heap.size < (mzS T c comp N K dv i).heap.size := by rw [h1]; omega
    have hb : ((mzS T c comp N K dv i).pushCell (mzI comp K dv)).heap[T.heap.size]? = some (mzO c N T.heap.size i) := by rw [State.heap_pushCell_of_lt (h := hlt)]; exact h2
    refine ⟨?_, State.heap_setCell_self hb, by simp [mzS, h3], ?_, fun a ha => ?_, fun j hj => ?_⟩
    · simp [mzS, State.setCell, h1]; omega
    · simp [mzS, h4, mzI, Nat.succ_mul]; omega
    · show (((mzS T c comp N K dv i).pushCell (mzI comp K dv)).setCell T.heap.size _).heap[a]? = _
      have hq : a < (mzS T c comp N K dv i).heap.size := by rw [h1]; omega
      rw [State.heap_setCell_other (show T.heap.size ≠ a by omega), State.heap_pushCell_of_lt (h := hq)]
      exact h5 a ha
    · show (((mzS T c comp N K dv i).pushCell (mzI comp K dv)).setCell T.heap.size _).heap[T.heap.size + 1 + j]? = _
      rw [State.heap_setCell_other (show T.heap.size ≠ T.heap.size + 1 + j by omega)]
      by_cases q : j < i
      · have hq : T.heap.size + 1 + j < (mzS T c comp N K dv i).heap.size := by rw [h1]; omega
        rw [State.heap_pushCell_of_lt (h := hq)]
        exact h6 j q
      · have e : T.heap.size + 1 + j = (mzS T c comp N K dv i).heap.size := by rw [h1]; omega
        rw [e]
        exact State.heap_pushCell_size _ _
theorem mzS_top (f : JFrame) : ∀ i, mzS (T.setTop f) c comp N K dv i = (mzS T c comp N K dv i).setTop f := by
  intro i
  induction i with
  | zero => rfl
  | succ i ih => simp only [mzS, ih, State.heap_setTop, State.pushCell_setTop, State.setCell_setTop]
end MZ
section MZW
variable {Ec : CtlPost} {e : Env} {d : Bool} {acts : List Action} {s : State}
theorem mz_row {c comp : ClassId} {k : Class} {ty : FieldType} {z : Nat} {v : Value} (hk : s.vm.classes[c]? = some k) (hkind : k.kind = .array comp ty) (hl : ¬ z > e.platform.arrayLengthLimit) (hh : ¬ z * componentBytes ty > e.platform.maxHeapBytes) (hf : fits ty v = true) (hd : v.isDefault = true) (h1 : s.heap.size < e.platform.maxCells) (h2 : s.slotsUsed + z ≤ e.platform.maxSlots) {Q : Addr → Pre} (hq : Q s.heap.size d acts (s.pushCell { cls := c, slots := Array.replicate z v, vm := .none })) : wp (Jvm.newArray c z v) Q Ec e d acts s := by
  have hfit : ∀ i w, (Array.replicate z v)[i]? = some w → s.fitsSlot c .none i w = true := by
    intro i w hw
    rw [Array.getElem?_replicate] at hw
    by_cases q : i < z
    · rw [if_pos q] at hw
      cases hw
      simp [State.fitsSlot, State.slotType?, hk, hkind, hf]
    · rw [if_neg q] at hw
      cases hw
  have hacts : allocActs (Array.replicate z v) s.heap.size acts = acts := by
    unfold allocActs
    rw [if_pos (by rw [Array.all_replicate]; split <;> simp [hd])]
  simp only [Jvm.newArray, Jvm.arrayFits, wp_bind', W.ask, W.ite, hl, if_false, wp_pure', W.theClass, hk, hkind, hh, W.alloc, W.stop, Option.some.injEq, exists_eq_left', Array.size_replicate, hacts]
  rw [if_neg (by omega)]
  exact ⟨h1, h2, hfit, hq⟩
theorem mz_make {c comp cc : ClassId} {k kc : Class} {ty : FieldType} {n m : Int32} {N K : Nat} (hN : n.toNatClampNeg = N) (hK : m.toNatClampNeg = K) (hk : s.vm.classes[c]? = some k) (hkind : k.kind = .array comp (.array ty)) (hkc : s.vm.classes[comp]? = some kc) (hkindc : kc.kind = .array cc ty) (hn : ¬ n < 0) (hm : ¬ m < 0) (hl1 : ¬ N > e.platform.arrayLengthLimit) (hh1 : ¬ N * componentBytes (.array ty) > e.platform.maxHeapBytes) (hl2 : ¬ K > e.platform.arrayLengthLimit) (hh2 : ¬ K * componentBytes ty > e.platform.maxHeapBytes) (hf : fits ty (defaultValue ty) = true) (hd : (defaultValue ty).isDefault = true) (hc : s.heap.size + 1 + N ≤ e.platform.maxCells) (hs : s.slotsUsed + N + N * K ≤ e.platform.maxSlots) {Q : Addr → Pre} (hq : ∀ d' acts', Q s.heap.size d' acts' (mzS s c comp N K (defaultValue ty) N)) : wp (multianewarray.make c [n, m]) Q Ec e d acts s := by
  have hneg : ([m].find? (· < 0)) = none := by simp [hm]
  rw [multianewarray.make]
  simp only [wp_bind', W.ite, hn, if_false, wp_pure', W.theClass, hk, hkind, Option.some.injEq, exists_eq_left']
  rw [hN]
  refine mz_row hk hkind hl1 hh1 rfl rfl (by omega) (by have := Nat.zero_le (N * K); omega) ?_
  simp only [hneg]
  rw [ite_self, wp_bind', Std.Legacy.Range.forIn_eq_forIn_range', show ([:N] : Std.Legacy.Range).size = N from by simp [Std.Legacy.Range.size]]
  show wp (forIn (List.range' 0 N 1) PUnit.unit _) _ Ec e d acts _
  refine wp_forIn_inv (fun rest t => ∃ i, i ≤ N ∧ rest = List.range' i (N - i) ∧ t = mzS s c comp N K (defaultValue ty) i) _ _ ⟨0, Nat.zero_le _, rfl, by rw [mzS, mzO_0]⟩ ?_ ?_
  · rintro x rest t d' acts' Q' ⟨i, hi, hr, rfl⟩ hnext
    by_cases hlt : i < N
    · rw [show N - i = (N - (i + 1)) + 1 from by omega, List.range'_succ] at hr
      obtain ⟨rfl, hr⟩ := List.cons.inj hr
      obtain ⟨h1, h2, h3, h4, -, -⟩ := mzS_at s c comp N K (defaultValue ty) x
      have hb : s.heap.size < (mzS s c comp N K (defaultValue ty) x).heap.size := by rw [h1]; omega
      have hmul : x * K + K ≤ N * K := by rw [← Nat.succ_mul]; exact Nat.mul_le_mul_right K hlt
      simp only [wp_bind']
      rw [multianewarray.make]
      simp only [wp_bind', W.ite, hm, if_false, wp_pure', W.theClass, h3, hkc, hkindc, Option.some.injEq, exists_eq_left']
      rw [hK]
      refine mz_row (by rw [h3]; exact hkc) hkindc hl2 hh2 hf hd (by rw [h1]; omega) (by rw [h4]; omega) ?_
      simp only [wp_bind', W.writeLoc, wp_pure']
      refine ⟨mzO c N s.heap.size x, by rw [State.heap_pushCell_of_lt (h := hb)]; exact h2, by simp [mzO], by rw [mzO_size]; exact hlt, ?_, hnext _ _ _ ⟨x + 1, hlt, hr, ?_⟩⟩
      · simp [mzO, State.fitsSlot, State.slotType?, h3, hk, hkind]
        rfl
      · rw [h1, mzO_set _ _ _ _ hlt]
        rfl
    · rw [show N - i = 0 from by omega] at hr
      cases hr
  · rintro t d' acts' ⟨i, hi, hr, rfl⟩
    have e : i = N := by
      rcases Nat.lt_or_ge i N with q | q
      · rw [show N - i = (N - (i + 1)) + 1 from by omega, List.range'_succ] at hr
        cases hr
      · omega
    subst e
    simp only [wp_pure']
    exact hq _ _
end MZW
/-- what the tables say of rows of rows, at every state -/
theorem ao_spec {args : Array Value} {s : State} {ty : FieldType} (h : va_AOA ty s) : ∃ comp c k, s.vm.findClass (FieldType.array ty).toString = some comp ∧ s.vm.classes[c]? = some k ∧ k.kind = .array comp (.array ty) ∧ s.vm.findClass ("[" ++ (FieldType.array ty).toString) = some c := by
  unfold va_AOA Cond.before at h
  simp only [Cond.holds, Cond.value] at h
  cases h1 : s.vm.findClass (FieldType.array ty).toString with
  | none => simp [h1] at h
  | some comp =>
    rw [h1, Option.bind_some] at h
    generalize h2 : Array.findIdx? _ s.vm.classes = fo at h
    cases fo with
    | none => simp at h
    | some c =>
      obtain ⟨hlt, hpc, -⟩ := Array.findIdx?_eq_some_iff_getElem.mp h2
      have hk : s.vm.classes[c]? = some s.vm.classes[c] := by simp [hlt]
      generalize s.vm.classes[c] = k at hk hpc
      simp only [Option.bind_some, hk, Option.map_some] at h
      cases hkk : k.kind with
      | array component t =>
        rw [hkk] at h hpc
        simp at h hpc
        exact ⟨comp, c, k, rfl, hk, by rw [hkk, hpc, h.1], h.2⟩
      | _ => rw [hkk] at hpc; simp at hpc
section MZR
variable {p : Program} {l : Launch} {e : Env} {R : Room} {s : State} {m : MethodId} {args : Array Value} {below : List Frame} {meth : Method} {c : Code} {H : Heap} {locs : List Loc} {cells slots : Nat} {Q : State → Prop}
theorem mz_stand {T : State} (X : Stand p l e R s m args below meth c T locs cells slots) (cA comp : ClassId) (N K : Nat) (dv : Value) : ∀ i, i ≤ N → Stand p l e R s m args below meth c (mzS T cA comp N K dv i) (locs ++ (List.range i).map fun j => ⟨T.heap.size, j⟩) (cells + 1 + i) (slots + N + i * K) := by
  intro i
  induction i with
  | zero =>
    intro _
    have h := X.pushed (mzO cA N T.heap.size 0)
    rw [mzO_size] at h
    simpa [mzS] using h
  | succ i ih =>
    intro hi
    have Xi := ih (by omega)
    obtain ⟨h1, h2, -⟩ := mzS_at T cA comp N K dv i
    have hb : T.heap.size < (mzS T cA comp N K dv i).heap.size := by rw [h1]; omega
    have h := (Xi.pushed (mzI comp K dv)).stored (a := T.heap.size) (cell := mzO cA N T.heap.size i) (by rw [State.heap_pushCell_of_lt (h := hb)]; exact h2) i (.ref (T.heap.size + 1 + i))
    rw [mzO_set _ _ _ _ (by omega)] at h
    have e1 : (mzI comp K dv).slots.size = K := by simp [mzI]
    have e2 : (locs ++ (List.range (i + 1)).map fun j => (⟨T.heap.size, j⟩ : Loc)) = (locs ++ (List.range i).map fun j => (⟨T.heap.size, j⟩ : Loc)) ++ [⟨T.heap.size, i⟩] := by rw [List.range_succ, List.map_append, List.append_assoc]; rfl
    rw [e1] at h
    rw [e2, show slots + N + (i + 1) * K = slots + N + i * K + K by rw [Nat.succ_mul]; omega]
    exact h
/-- the row at the machine: old cells stay; the outer row, then its rows, in order -/
theorem W.mz {cc : ByteArray} (hexec : p.tables.exec = Jvm.exec) (hb : c.code = cc) {own : String} {index : Nat} {ty : FieldType} {cA comp : ClassId} (hown : s.vm.findClass own = some m.cls) (hclink : (Cond.classLink own index ("[" ++ (FieldType.array ty).toString)).before args s = true) (hover : va_AOA ty s) (harr : (Cond.arrayClass ty).before args s = true) (hfA : s.vm.findClass ("[" ++ (FieldType.array ty).toString) = some cA) (hfC : s.vm.findClass (FieldType.array ty).toString = some comp) {g : JFrame} (hg : g.method = m) (hdg : decode cc g.pc = .ok (.multianewarray index 2, 4)) {n k : Int32} {N K : Nat} {rest : List Value} (hstack : g.stack = .int k :: .int n :: rest) (hn : ¬ n < 0) (hk : ¬ k < 0) (hN : n.toNatClampNeg = N) (hK : k.toNatClampNeg = K) (hb1 : N * 4 ≤ 536870912) (hb2 : K * componentBytes ty ≤ 536870912) (hb3 : K ≤ 536870912) (hf : fits ty (defaultValue ty) = true) (hd : (defaultValue ty).isDefault = true) (hcells : cells + (1 + N) ≤ R.cells) (hslots : slots + (N + N * K) ≤ R.slots)
    (kk : ∀ (H1 : Heap) (locs1 : List Loc), H1.size = H.size + 1 + N → H1[H.size]? = some (mzO cA N H.size N) → (∀ a, a < H.size → H1[a]? = H[a]?) → (∀ j, j < N → H1[H.size + 1 + j]? = some (mzI comp K (defaultValue ty))) → (∀ q ∈ locs1, q ∈ locs ∨ q.base = H.size) → W p l e R s m args below meth c H1 locs1 (cells + 1 + N) (slots + N + N * K) Q { g with pc := g.pc + 4, stack := .ref H.size :: rest }) : W p l e R s m args below meth c H locs cells slots Q g := by
  intro T hT X
  subst hT
  subst hb
  subst hg
  have hpl : e.platform.magicAccessors = ({} : Platform).magicAccessors := by rw [X.admits.platform]
  obtain ⟨comp1, cA1, kA, hcomp, hkA, hkindA, hnameA⟩ := ao_spec (args := args) hover
  obtain ⟨comp2, kC, cc, hcomp2, hkC, hkindC⟩ := Cond.arrayClass_spec harr
  cases hcomp2.symm.trans hcomp
  cases hfC.symm.trans hcomp
  cases hfA.symm.trans hnameA
  obtain ⟨c0, hfc0, hcl⟩ := Cond.classLink_spec hown hclink e.platform hpl
  cases hnameA.symm.trans hfc0
  obtain ⟨hg1, hwarm, hready⟩ := State.classEntry (e := e) X.warmed hcl
  generalize T.vm.noted g.method.cls index (.cls cA) = vm1 at hg1 hwarm hready
  have hal : s.vm.Alike vm1 := hwarm.alike
  obtain ⟨kA1, hkA1, heA⟩ := hal.2.2 _ _ hkA
  obtain ⟨kC1, hkC1, heC⟩ := hal.2.2 _ _ hkC
  have X1 := X.noted hwarm
  obtain ⟨hr1, hr2⟩ := X.roomAbove hcells hslots
  have XF := mz_stand X1 cA comp N K (defaultValue ty) N (Nat.le_refl _)
  obtain ⟨a1, a2, -, -, a5, a6⟩ := mzS_at (T.setVm vm1) cA comp N K (defaultValue ty) N
  obtain ⟨t, b1, b2⟩ := kk _ _ a1 a2 a5 a6 (fun q hq => by
    rcases List.mem_append.mp hq with h | h
    · exact Or.inl h
    · obtain ⟨j, -, rfl⟩ := List.mem_map.mp h
      exact Or.inr rfl) _ rfl XF
  refine ⟨t, ?_, b2⟩
  have hl1 : ¬ N > e.platform.arrayLengthLimit := by rw [Launch.admits_arrayLengthLimit X.admits]; omega
  have hh1 : ¬ N * componentBytes (.array ty) > e.platform.maxHeapBytes := by rw [Launch.admits_maxHeapBytes X.admits]; show ¬ N * 4 > 536870912; omega
  have hl2 : ¬ K > e.platform.arrayLengthLimit := by rw [Launch.admits_arrayLengthLimit X.admits]; omega
  have hh2 : ¬ K * componentBytes ty > e.platform.maxHeapBytes := by rw [Launch.admits_maxHeapBytes X.admits]; omega
  jvm_step X.here [hexec, hdg]
  simp only [multianewarray.sem, wp_bind', W.resolveClassAt_links (State.method?_setTop g X.here.top) hg1]
  rw [W.popN, if_neg (by decide)]
  refine ⟨g, State.topJava?_setTop' (s := T.setVm vm1) g X.here.top, [.int n, .int k], rest, rfl, hstack, ?_⟩
  simp only [List.mapM_cons, List.mapM_nil, wp_bind', wp_pure']
  refine mz_make (k := kA1) (kc := kC1) (comp := comp) (cc := cc) (ty := ty) hN hK hkA1 (by rw [heA]; exact hkindA) hkC1 (by rw [heC]; exact hkindC) hn hk hl1 hh1 hl2 hh2 hf hd (by show T.heap.size + 1 + _ ≤ _; omega) (by show T.slotsUsed + _ + _ ≤ _; omega) (fun d' acts' => ?_)
  rw [show ((T.setTop g).setVm vm1).setTop { g with stack := rest } = (T.setVm vm1).setTop { g with stack := rest } from by
    show ((T.setVm vm1).setTop g).setTop _ = _
    rw [State.setTop_setTop], mzS_top]
  simp only [wp_bind', W.mark, W.pushRef, State.topJava?_setTop' _ XF.here.top, Option.some.injEq, exists_eq_left', State.setTop_setTop, State.heap_setTop]
  intro acts
  simp [jvm, XF.here.top]
  exact b1
end MZR
