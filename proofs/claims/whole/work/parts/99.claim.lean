/-! THE CLAIM OUT OF ONE WALK OF THE LAW'S BODY. Your part is whole_start (and what it stands on); all else here is the same for every law, but numbers. -/
def R_law : String := "TelegramFeelingsLaw"
def lw_P (b : Addr) (xs : List Int32) (args : Array Value) (s : State) : Prop := args = #[.ref b] ∧ s.IntsAt b xs ∧ xs.length ≤ 3072 ∧ (Jvm.Cond.and given_1 narrow_1).before args s = true
def lw_Q (_ : Array Value) (s : State) (o : Outcome) (t : State) : Prop := o = .returned (some (.int 1)) ∧ Framed s o t [] 600000 7302250
def lw_Z (below : List Frame) (a : Array Value) (s : State) : State → Prop := fun t => ∃ o, t.status = .running ∧ Ended t below o ∧ lw_Q a s o t
/-- the law's own end, with 1 on the stack, nothing written that was there before, its room as the claim has it -/
theorem lw_ret {p : Program} {l : Launch} {e : Env} {s : State} {m : MethodId} {below : List Frame} {meth : Method} {c : Code} {b : Nat} (hx : p.tables.exec = Jvm.exec) (hb : c.code = code) (hr : meth.sig.returnType = ret) (hlocks : meth.locks = false) {pc : Nat} {H : Heap} {ls : Array Slot} (hdg : decode code pc = .ok (.ireturn, 1)) : W p l e room_1 s m #[Value.ref b] below meth c H [] 600000 7302250 (lw_Z below #[Value.ref b] s) (F0 m pc ls [.int 1]) := by
  intro T hT X
  obtain ⟨fs, hret, hrun, hended, hW, hframe⟩ := X.leave (v := some (.int 1)) (hlocks := hlocks) (fun h => by rw [hr] at h; cases h)
  have hmeth' : T.vm.method? m = some meth := X.method'
  refine ⟨T.setFrames fs, ?_, .returned (some (.int 1)), hrun, hended, rfl, ⟨_, rfl⟩, hW, hframe⟩
  jvm_step X.here [X.here.top, hx, hb, hdg, hmeth', hr, ret, narrow_b1]
  (try refine ⟨rfl, ?_⟩); (try refine ⟨rfl, ?_⟩)
  first | (intro acts; rw [hret _ acts rfl rfl rfl]) | rw [hret _ _ rfl rfl rfl]
  exact Steps.refl _
/-- what holds at the law's entry: the machine, the code, the tables' words (any of lw_tbl by 'hts w (by decide +kernel)'), the script of L ints xs at the cell b, what the Statement gives of the start (any of its parts by flat_of_before) -/
def lw_At (p : Program) (s : State) (m : MethodId) (meth : Method) (c : Code) (b L : Nat) (xs : Nat → Int32) : Prop :=
  p.tables.exec = Jvm.exec ∧ c.code = code ∧ meth.sig.returnType = ret ∧ c.maxLocals = 4 ∧ s.vm.findClass R_law = some m.cls ∧ (∀ w ∈ lw_tbl, w.before #[Value.ref b] s = true) ∧ va_X b L xs s s.heap ∧ b < s.heap.size ∧ meth.locks = false ∧ (Jvm.Cond.and given_1 narrow_1).before #[Value.ref b] s = true
/-- the memory before anything is made, and behind both constructors -/
theorem arrT_of {s : State} {c comp : ClassId} {k : Class} {t : FieldType} (h2 : s.vm.classes[c]? = some k) (h3 : k.kind = .array comp t) : ArrOfT s c t := fun n z => ⟨fun q h => (by cases h), k, h2, comp, h3⟩
theorem sf_one {args : Array Value} {s : State} {A : Nat → Prop} {C n : String} {N : Nat} {vs : List Int} (hN : N < 100) (hl : (Cond.laysStatic C n "[I").before args s = true) (hini : (Cond.initialized C).before args s = true) (harr : (Cond.arrayOf (.static C n "[I") .int).before args s = true) (hlen : (Cond.eq (.length (.static C n "[I")) (.int (Int32.ofNat N))).before args s = true) (hel : ∀ j, j < N → (Cond.eq (.elem (.static C n "[I") (.int (Int32.ofNat j))) (.int (Int32.ofInt (vs.getD j 0)))).before args s = true) (hA : ∀ a : Nat, a < s.heap.size → ¬ A a) : ∃ t, va_Z C n "[I" (.ref t) A s s.heap ∧ va_T .int t N (fun j => .int (Int32.ofInt (vs.getD j 0))) A s s.heap := by
  obtain ⟨t, h1, h2⟩ := va_Tof (f := fun j => .int (Int32.ofInt (vs.getD j 0))) (by omega) harr (va_eqt hlen) (fun j hj => va_eqt (hel j hj)) hA
  exact ⟨t, va_Zof hl hini h1 hA, h2⟩
theorem all_lt {P : Nat → Prop} : ∀ {N : Nat}, P N → (∀ j, j < N → P j) → ∀ j, j < N + 1 → P j := fun h0 h j hj => by
  rcases Nat.lt_succ_iff_lt_or_eq.mp hj with q | q
  · exact h j q
  · rw [q]; exact h0
theorem all_0 {P : Nat → Prop} : ∀ j, j < 0 → P j := fun j h => absurd h (Nat.not_lt_zero _)
theorem SH_fin : SH Mfin := by
  have h : stab.all (fun q => decide (gR Mfin q.1 q.2.1 = some q.2.2)) = true := by decide +kernel
  intro q hq
  exact of_decide_eq_true (List.all_eq_true.mp h q hq)
theorem start_K {s : State} {args : Array Value} (hts : ∀ w ∈ lw_tbl, w.before args s = true) : ∃ (D : va_G) (cA : Nat → ClassId), va_K D cl (tysOf cA) s := by
  have htb : ∀ w ∈ TB, w.before args s = true := fun w h => hts w (TB_sub w h)
  obtain ⟨c0, i0, k0⟩ := u_known (C := RX0) (T := TX0) (N := 6) (n := 6) htb cbX0.1 (htb _ wd378)
  obtain ⟨c1, i1, k1⟩ := u_known (C := RX1) (T := TX1) (N := 7) (n := 7) htb cbX1.1 (htb _ wd349)
  obtain ⟨c2, i2, k2⟩ := u_known (C := RX2) (T := TX2) (N := 8) (n := 8) htb cbX2.1 (htb _ wd317)
  obtain ⟨c3, i3, k3⟩ := u_known (C := RX3) (T := TX3) (N := 6) (n := 6) htb cbX3.1 (htb _ wd292)
  obtain ⟨c4, i4, k4⟩ := u_known (C := RX4) (T := TX4) (N := 11) (n := 11) htb cbX4.1 (htb _ wd162)
  obtain ⟨c5, i5, k5⟩ := u_known (C := RX5) (T := TX5) (N := 4) (n := 4) htb cbX5.1 (htb _ wd133)
  obtain ⟨c6, i6, k6⟩ := u_known (C := RX6) (T := TX6) (N := 6) (n := 6) htb cbX6.1 (htb _ wd267)
  obtain ⟨c7, i7, k7⟩ := u_known (C := RX7) (T := TX7) (N := 4) (n := 4) htb cbX7.1 (htb _ wd215)
  obtain ⟨c8, i8, k8⟩ := u_known (C := RX8) (T := TX8) (N := 6) (n := 6) htb cbX8.1 (htb _ wd240)
  obtain ⟨c9, i9, k9⟩ := u_known (C := RX9) (T := TX9) (N := 9) (n := 9) htb cbX9.1 (htb _ wd125)
  obtain ⟨c10, i10, k10⟩ := u_known (C := RX10) (T := TX10) (N := 60) (n := 60) htb cbX10.1 (htb _ wd1136)
  obtain ⟨a1, b1, e1, f1, g1, h1⟩ := Cond.arrayClass_spec (htb _ wd160)
  obtain ⟨a2, b2, e2, f2, g2, h2⟩ := Cond.arrayClass_spec (htb _ wd238)
  obtain ⟨a3, b3, e3, f3, g3, h3⟩ := Cond.arrayClass_spec (htb _ wd213)
  obtain ⟨a4, b4, e4, f4, g4, h4⟩ := Cond.arrayClass_spec (htb _ wd1321)
  obtain ⟨e5, a5, b5, f5, g5, h5, j5⟩ := ao_spec (args := args) (ty := .int) (s := s) (show va_AOA .int s from hts (.arrayOver (.array .int)) (List.mem_of_getElem? (i := 139) (by decide +kernel)))
  obtain ⟨e6, a6, b6, f6, g6, h6, j6⟩ := ao_spec (args := args) (ty := .long) (s := s) (show va_AOA .long s from hts (.arrayOver (.array .long)) (List.mem_of_getElem? (i := 221) (by decide +kernel)))
  refine ⟨(fun k => match k with | 0 => c0 | 1 => c1 | 2 => c2 | 3 => c3 | 4 => c4 | 5 => c5 | 6 => c6 | 7 => c7 | 8 => c8 | 9 => c9 | _ => c10, fun k => match k with | 0 => i0 | 1 => i1 | 2 => i2 | 3 => i3 | 4 => i4 | 5 => i5 | 6 => i6 | 7 => i7 | 8 => i8 | 9 => i9 | _ => i10), fun k => match k with | 1 => a1 | 2 => a2 | 3 => a3 | 4 => a4 | 5 => a5 | _ => a6, fun c q hq => ?_, fun k q hq => ?_⟩
  · match c, hq with
    | 0, hq => cases hq; exact k0
    | 1, hq => cases hq; exact k1
    | 2, hq => cases hq; exact k2
    | 3, hq => cases hq; exact k3
    | 4, hq => cases hq; exact k4
    | 5, hq => cases hq; exact k5
    | 6, hq => cases hq; exact k6
    | 7, hq => cases hq; exact k7
    | 8, hq => cases hq; exact k8
    | 9, hq => cases hq; exact k9
    | 10, hq => cases hq; exact k10
    | c + 11, hq => simp [cl] at hq
  · match k, hq with
    | 0, hq => cases hq; exact ⟨arrT_of g1 h1, f1⟩
    | 1, hq => cases hq; exact ⟨arrT_of g2 h2, f2⟩
    | 2, hq => cases hq; exact ⟨arrT_of g3 h3, f3⟩
    | 3, hq => cases hq; exact ⟨arrT_of g4 h4, f4⟩
    | 4, hq => cases hq; exact ⟨arrT_of g5 h5, j5⟩
    | 5, hq => cases hq; exact ⟨arrT_of g6 h6, j6⟩
    | k + 6, hq => simp [tysOf] at hq
theorem start_F {s : State} {b : Nat} {A : Nat → Prop} (hts : ∀ w ∈ lw_tbl, w.before #[Value.ref b] s = true) (hgv : (Jvm.Cond.and given_1 narrow_1).before #[Value.ref b] s = true) (hA : ∀ a : Nat, a < s.heap.size → ¬ A a) : SF A s s.heap := by
  have hs := flat_of_before _ hgv
  have htb : ∀ w ∈ TB, w.before #[Value.ref b] s = true := fun w h => hts w (TB_sub w h)
  have f0 := sf_one (args := #[Value.ref b]) (s := s) (A := A) (C := "TelegramFeelings$Office") (n := "LEAST") (N := 10) (vs := (sfC 0).2.2) (by decide) (hts _ (List.mem_of_getElem? (i := 441) (by decide +kernel))) (htb _ wd105) (hs _ (by decide +kernel)) (hs _ (by decide +kernel)) (all_lt (hs _ (by decide +kernel)) <| all_lt (hs _ (by decide +kernel)) <| all_lt (hs _ (by decide +kernel)) <| all_lt (hs _ (by decide +kernel)) <| all_lt (hs _ (by decide +kernel)) <| all_lt (hs _ (by decide +kernel)) <| all_lt (hs _ (by decide +kernel)) <| all_lt (hs _ (by decide +kernel)) <| all_lt (hs _ (by decide +kernel)) <| all_lt (hs _ (by decide +kernel)) <| all_0) hA
  have f1 := sf_one (args := #[Value.ref b]) (s := s) (A := A) (C := "TelegramFeelings$Office") (n := "MOST") (N := 10) (vs := (sfC 1).2.2) (by decide) (hts _ (List.mem_of_getElem? (i := 443) (by decide +kernel))) (htb _ wd105) (hs _ (by decide +kernel)) (hs _ (by decide +kernel)) (all_lt (hs _ (by decide +kernel)) <| all_lt (hs _ (by decide +kernel)) <| all_lt (hs _ (by decide +kernel)) <| all_lt (hs _ (by decide +kernel)) <| all_lt (hs _ (by decide +kernel)) <| all_lt (hs _ (by decide +kernel)) <| all_lt (hs _ (by decide +kernel)) <| all_lt (hs _ (by decide +kernel)) <| all_lt (hs _ (by decide +kernel)) <| all_lt (hs _ (by decide +kernel)) <| all_0) hA
  have f2 := sf_one (args := #[Value.ref b]) (s := s) (A := A) (C := "TelegramFeelings$Bodies") (n := "ABOVE") (N := 8) (vs := (sfC 2).2.2) (by decide) (hts _ (List.mem_of_getElem? (i := 1052) (by decide +kernel))) (htb _ wd115) (hs _ (by decide +kernel)) (hs _ (by decide +kernel)) (all_lt (hs _ (by decide +kernel)) <| all_lt (hs _ (by decide +kernel)) <| all_lt (hs _ (by decide +kernel)) <| all_lt (hs _ (by decide +kernel)) <| all_lt (hs _ (by decide +kernel)) <| all_lt (hs _ (by decide +kernel)) <| all_lt (hs _ (by decide +kernel)) <| all_lt (hs _ (by decide +kernel)) <| all_0) hA
  refine ⟨fun i hi => ?_, ⟨va_Nw.of rfl (hts _ (List.mem_of_getElem? (i := 379) (by decide +kernel))), va_Nw.of rfl (hts _ (List.mem_of_getElem? (i := 444) (by decide +kernel))), va_Nw.of rfl (hts _ (List.mem_of_getElem? (i := 913) (by decide +kernel)))⟩, ⟨va_Zof (hts _ (List.mem_of_getElem? (i := 177) (by decide +kernel))) (htb _ wd107) (va_eqt (hs _ (by decide +kernel))) hA, show va_AOA .int s from hts (.arrayOver (.array .int)) (List.mem_of_getElem? (i := 139) (by decide +kernel)), show va_AOA .long s from hts (.arrayOver (.array .long)) (List.mem_of_getElem? (i := 221) (by decide +kernel))⟩, ?_⟩
  · match i, hi with
    | 0, _ => exact f0
    | 1, _ => exact f1
    | 2, _ => exact f2
  · obtain ⟨adK, adV, h1, h2⟩ := vk_Sof (args := #[Value.ref b]) (s := s) (N := 1) (tm := fun _ => Term.string "TelegramFeelings$Law" 21) (len := [6]) (byt := [[99, 115, 108, 112, 100, 119]]) (A := A) (fun i hi => by (have hi0 : i = 0 := (by omega)); subst hi0; decide) (fun i hi => hs _ (by decide +kernel)) (fun i hi => hs _ (by decide +kernel)) (fun i hi => hs _ (by decide +kernel)) (fun i hi => by (have hi0 : i = 0 := (by omega)); subst hi0; exact hs _ (by decide +kernel)) (fun i hi => by
      have : i = 0 := by omega
      subst this
      exact all_lt (hs _ (by decide +kernel)) <| all_lt (hs _ (by decide +kernel)) <| all_lt (hs _ (by decide +kernel)) <| all_lt (hs _ (by decide +kernel)) <| all_lt (hs _ (by decide +kernel)) <| all_lt (hs _ (by decide +kernel)) <| all_0) (fun i j hi hj hn => absurd (by omega) hn) hA
    refine ⟨adK 0, adV 0, vk_R.of (hts _ (List.mem_of_getElem? (i := 167) (by decide +kernel))) (h2 0 (by decide)), fun i hi => ?_, fun i j hi hj _ => by omega⟩
    have : i = 0 := by omega
    subst this
    exact h1.1 0 (by decide)
theorem whole_start {p : Program} {e : Env} {s : State} {m : MethodId} {below : List Frame} {meth : Method} {c : Code} (l : Launch) (hflags : l.flags = flags0) {b L : Nat} {xs : Nat → Int32} (hL : L ≤ 3072) (C0 : lw_At p s m meth c b L xs) : W p l e room_1 s m #[Value.ref b] below meth c s.heap [] 0 0 (lw_Z below #[Value.ref b] s) (entryFrame m ([Value.ref b] : List Value).toArray 4) := by
  obtain ⟨hx, hb, hr, hml, hown, hts, hX, hbl, hlocks, hgv⟩ := id C0
  obtain ⟨D, cA, hK⟩ := start_K hts
  obtain ⟨A, hAe⟩ : ∃ A : Nat → Prop, ∀ q, A q ↔ s.heap.size ≤ q := ⟨fun q => s.heap.size ≤ q, fun _ => Iff.rfl⟩
  have hA0 : ∀ q : Nat, s.heap.size ≤ q → A q := fun q h => (hAe q).mpr h
  have hA1 : ∀ a : Nat, a < s.heap.size → ¬ A a := fun a h q => by have := (hAe a).mp q; omega
  have hSF := start_F hts hgv hA1
  have htb : ∀ w ∈ TB, w.before #[Value.ref b] s = true := fun w h => hts w (TB_sub w h)
  have hctx : ∀ f : Bool, Ctx (p, l, e, room_1, s, m, #[Value.ref b], below, meth, c, A, D, cA, f, 4) code "TelegramFeelingsLaw" 1400 := fun f => ⟨hx, hb, hml, hown, htb, hK, hA0, hSF, Nat.le_of_ble_eq_true rfl, Nat.le_of_ble_eq_true rfl⟩
  have hXc := hctx false
  have hf : (gX (p, l, e, room_1, s, m, #[Value.ref b], below, meth, c, A, D, cA, false, 4)).2.2.2.2 = false := rfl
  have hSX : SX (p, l, e, room_1, s, m, #[Value.ref b], below, meth, c, A, D, cA, true, 4) b L (fun i => (xs i).toInt) := ⟨⟨xs, hX, fun _ => rfl⟩, hbl, hA1 b hbl, hL⟩
  have hr97 : 97 ≤ room_1.cells := by decide
  have hr88 : 8846 ≤ room_1.slots := by decide
  have key : JW (p, l, e, room_1, s, m, #[Value.ref b], below, meth, c, A, D, cA, false, 4) (fun _ => 0) 0 0 0 0 [(0, vX (.ref b))] [] M00 (lw_Z below #[Value.ref b] s) := by
    refine j_new hXc hf cbX9 ty0 wd124 wd125 wd104 (by decide +kernel) ⟨Nat.le_of_ble_eq_true rfl, Nat.le_of_ble_eq_true rfl⟩ dL_law_0 (fun B1 hB1 => ?_)
    refine j_dup hXc dL_law_3 rfl ?_
    refine j_callC hXc hf mwX9_init wd127 wd126 rfl hyX9_init (by decide) (by decide) ⟨Nat.le_of_ble_eq_true rfl, Nat.le_of_ble_eq_true rfl⟩ dL_law_4 (by decide) (c_X9_init hf _) npX9_init rfl (Nat.le_of_ble_eq_true rfl) (fun B2 hB2 => ?_)
    refine j_astore_n (nl := 4) (L' := [(1, vR 0), (0, vX (.ref b))]) hXc dL_law_7 rfl rfl (by decide) rfl ?_
    refine j_new hXc hf cbX10 ty56 wd1135 wd1136 wd116 (by decide +kernel) ⟨Nat.le_of_ble_eq_true rfl, Nat.le_of_ble_eq_true rfl⟩ dL_law_8 (fun B3 hB3 => ?_)
    refine j_dup hXc dL_law_11 rfl ?_
    refine j_callC hXc hf mwX10_init wd1138 wd1137 rfl hyX10_init (by decide) (by decide) ⟨Nat.le_of_ble_eq_true rfl, Nat.le_of_ble_eq_true rfl⟩ dL_law_12 (by decide) (c_X10_init hf _) npX10_init rfl (Nat.le_of_ble_eq_true rfl) (fun B4 hB4 => ?_)
    refine j_astore_n (nl := 4) (L' := [(2, vR 56), (1, vR 0), (0, vX (.ref b))]) hXc dL_law_15 rfl rfl (by decide) rfl ?_
    refine j_iconst hXc dL_law_16 (rc rfl) ?_
    refine j_istore_n (nl := 4) (L' := [(3, vI 0), (2, vR 56), (1, vR 0), (0, vX (.ref b))]) hXc dL_law_17 rfl rfl (by decide) rfl ?_
    refine j_sub [3, 2, 1, 0] rfl ?_
    show JW _ B4 97 97 8846 18 [(0, vX (.ref b)), (1, vR 0), (2, vR 56), (3, vI 0)] [] Mfin _
    have K := sl_law (B := B4) (n := 97) (k2 := 97) (k3 := 8846) (Q := lw_Z below #[Value.ref b] s) (hctx true) rfl rfl ⟨hr97, hr88⟩ (fun pc L1 M1 hd => ?_) hSX FU 0 Mfin Mfin (pure_law L _ hL (fun i => q_r _))
    · rw [cmb_self] at K
      intro hrL hrS hM hSH hW H locs ls hP hS hl
      exact K hrL hrS hM (fun _ => SH_fin) hW H locs ls hP hS hl
    · intro hrL hrS hM hSH hW H locs ls hP hS hl
      refine va_forget (fun q hq => (hAe _).mp (hS.2.2 q hq)) ?_
      refine W.widen (k := 600000) (n := 7302250) (by decide) (by decide) ?_
      exact lw_ret hx hb hr hlocks hd
  have hl := lv_entry ([.ref b]) (n := 4) (Nat.le_of_ble_eq_true rfl)
  rw [lg_entry_eq]
  exact key (fun q hq => by rcases List.mem_singleton.mp hq with rfl; trivial) (fun v h => by cases h) ⟨fun c k h => absurd h (Nat.not_lt_zero _), fun c k a h => absurd h (Nat.not_lt_zero _)⟩ (fun h => by cases h) ⟨fun i j h => absurd h (Nat.not_lt_zero _), fun i h => absurd h (Nat.not_lt_zero _)⟩ s.heap [] _ (fun k q h => by simp [wN] at h) va_S.rf hl
-- ===== YOUR PART ENDS =====
set_option maxHeartbeats 4000000 in
theorem lw_walk (l : Launch) (hflags : l.flags = flags0) (b : Addr) (xs : List Int32) : MetFree l x (headSpec (Jvm.Cond.code x code maxLocals ret :: tables_1) room_1) (lw_P b xs) (fun _ _ _ _ _ => True) lw_Q := by
  refine MetFree.of_bodyS (code := code) (maxLocals := maxLocals) (ret := ret) (by decide) ?_ ?_
  · intro args s m h hn
    obtain ⟨meth, c, h1, h2, h3, h4, h5, h6, -, -⟩ := Cond.code_spec hn (atoms_spec (ws := Jvm.Cond.code x code maxLocals ret :: tables_1) h _ List.mem_cons_self)
    exact ⟨meth, c, h1, h2, h3, h4, h5, h6⟩
  · intro p e s m args below meth c s₁ B hml0 hP _
    obtain ⟨rfl, hx, hbd, hgv⟩ := hP
    obtain ⟨scr, harrAt, hlist, hof, hsmall⟩ := hx
    obtain ⟨hcb, hkn, -, -⟩ := State.arrayAt?_spec harrAt
    have hown : s.vm.findClass R_law = some m.cls := findClass_of_methodNamed B.named
    have hts0 : ∀ c ∈ (Jvm.Cond.code x code maxLocals ret :: tables_1), c.before #[Value.ref b] s = true := atoms_spec (ws := Jvm.Cond.code x code maxLocals ret :: tables_1) B.pre
    have hts : ∀ w ∈ lw_tbl, w.before #[Value.ref b] s = true := k2_hts_sels lw_privs (fun w hw => hts0 w (List.mem_cons_of_mem _ hw)) lw_privs_ok
    have hml : c.maxLocals = 4 := B.maxLocals_eq (hts0 _ List.mem_cons_self)
    have X₀ : Stand p l e room_1 s m #[Value.ref b] below meth c s₁ [] 0 0 := Stand.of_body B
    have hh0 : s₁.heap = s.heap := by rw [B.state]; rfl
    have hsz : scr.slots.size = xs.length := by rw [← Array.length_toList, hlist, List.length_map]
    have hval : ∀ j : Nat, j < xs.length → scr.slots[j]? = some (.int (xs.getD j 0)) := fun j hj => by
      rw [← Array.getElem?_toList, hlist]
      simp [hj]
    have hbl : b < s.heap.size := (Array.getElem?_eq_some_iff.mp hcb).1
    have hX : va_X b xs.length (fun j => xs.getD j 0) s s.heap := ⟨scr, hcb, hof, hkn, hsz, hval⟩
    have K : W p l e room_1 s m #[Value.ref b] below meth c s₁.heap [] 0 0 (lw_Z below #[Value.ref b] s) (entryFrame m ([Value.ref b] : List Value).toArray 4) := by
      rw [hh0]
      exact whole_start l hflags hbd ⟨B.exec, B.bytes, B.returns, hml, hown, hts, hX, hbl, B.notSynchronized, hgv⟩
    obtain ⟨t, a1, o, b1, b2, b3⟩ := K s₁ rfl X₀
    exact ⟨t, o, a1, b1, b2, b3⟩
theorem lw_pre_spec {args : Array Value} {s : State} (h : (Jvm.Cond.and given_1 narrow_1).before args s = true) (hr : rest_1_c.before args s = true) : ∃ (b : Addr) (xs : List Int32), lw_P b xs args s := by
  have hs := flat_of_before _ h
  have hq := flat_of_before _ hr
  have hc : (Cond.count 1).before args s = true := hs _ (by decide +kernel)
  have harr : (Cond.arrayOf (.arg 0) .int).before args s = true := hs _ (by decide +kernel)
  have hle : (Cond.le (.length (.arg 0)) (.int 3072)).before args s = true := hs _ (by decide +kernel)
  have hlen : (Cond.isInt (.length (.arg 0))).before args s = true := hq _ (by decide +kernel)
  have hall : (Cond.all (.arg 0) (.isInt (.elem (.arg 0) (.index 0)))).before args s = true := hq _ (by decide +kernel)
  obtain ⟨b, xs, hb, hx⟩ := State.ints_of_pre rfl harr hlen hall
  have hsm : xs.length < 2 ^ 31 := hx.choose_spec.2.2.2
  have hev : (Term.length (.arg 0)).eval args s none [] s = some (.int xs.length.toInt32) := hx.length_eval hb
  have hv := Cond.le_ints hev (show (Term.int 3072).eval args s none [] s = some (.int 3072) from rfl)
  have hd : xs.length.toInt32 ≤ 3072 := by
    simpa [Cond.before, Cond.holds, hv] using hle
  have hN : xs.length ≤ 3072 := (Int32.ofNat_le_ofNat hsm (by decide)).mp (show Int32.ofNat xs.length ≤ Int32.ofNat 3072 from hd)
  exact ⟨b, xs, Cond.one_arg hc (show args[0]? = some (.ref b) from hb), hx, hN, h⟩
theorem lw_comes (l : Launch) (hflags : l.flags = flags0) : Comes l x (Jvm.Cond.code x code maxLocals ret :: tables_1) room_1 (fun tb e args s => Calls_1 tb e args s ∧ rest_1 tb e args s ∧ Pre_1 tb e args s)
    (fun _ _ args s o t => lw_Q args s o t) := by
  intro p e ha hc hk s m args below hf hfit hheap happ hpre
  obtain ⟨b, xs, hP⟩ := lw_pre_spec hpre.2.2 hpre.2.1
  obtain ⟨k, o, h1, h2, h3, hQ⟩ := lw_walk l hflags b xs p e ha hc hk s m args below hf ((Spec.applies_iff_loose hf).mp happ).1 hP trivial
  exact ⟨k, o, h1, h2, h3, hQ⟩
theorem lw_frame {s t : State} {o : Outcome} {args : Array Value} (h : Framed s o t [] 600000 7302250) :
    Framed s o t (fieldLocs frame_1_writes args s ++ arrayLocs frame_1_arrays args s ++ staticLocs frame_1_statics s) 600000 7302250 := h
theorem lw_limb (L : Cond) (hL : ∀ (args : Array Value) (s t : State), L.after args s (.returned (some (.int 1))) t = true) :
    ArmFor flags0 classFile x code maxLocals ret World_1 tables_1 room_1 Calls_1 rest_1 Pre_1
      (fun tb e a s o t => postC L tb e a s o t ∧ Framed s o t (fieldLocs frame_1_writes a s ++ arrayLocs frame_1_arrays a s ++ staticLocs frame_1_statics s) 600000 7302250) := by
  intro l hflags _ _ p e ha hc hk s m args below hf hfit hheap happ hpre
  obtain ⟨k, o, h1, h2, h3, rfl, hF⟩ := lw_comes l hflags p e ha hc hk s m args below hf hfit hheap happ hpre
  exact ⟨k, _, h1, h2, h3, hL args s _, lw_frame hF⟩
theorem i_vc : Claimed_1_1 ∧ Claimed_1_2 := ⟨lw_limb limb_1_1 (fun args s t => by simp [limb_1_1, Cond.after, Cond.holds, Cond.value]), lw_limb limb_1_2 (fun args s t => Cond.after_iff.mpr (by
  first | (rw [show limb_1_2 = Cond.eq .result (.int 1) from rfl, Cond.eq_ints (x := 1) (y := 1) rfl rfl]; simp; done) | (simp [limb_1_2, Cond.value, Term.eval]; done)))⟩
