/-! WHAT THE CALLS THAT ASK REST ON: the numbers, the law, each side for itself -/
def NR (N : Nat → Nat → Int) (nW nP : Nat) : Prop := (nW ≤ 12 ∧ nP ≤ 6) ∧ ∀ w i, w < 10 → i < lim nW nP w → lo w ≤ N w i ∧ N w i ≤ hi nW w
def OC (N : Nat → Nat → Int) (nW nP : Nat) (S : Mem) : Prop := Shp S ∧ (gI S 1 1 = nW ∧ gI S 1 2 = nP) ∧ ∀ w i, w < 10 → i < lim nW nP w → nu S w i = N w i
def OM (N : Nat → Nat → Int) (nW nP : Nat) (S : Mem) : Prop := (gI S 56 1 = nW ∧ gI S 56 7 = nP) ∧ ∀ w i, w < 10 → i < lim nW nP w → mu S w i = N w i
def LC (law : Option (List Lin)) (S : Mem) : Prop := ((gR S 13 3 = some 15 ∧ gR S 13 5 = some 16) ∨ (gR S 13 3 = some 16 ∧ gR S 13 5 = some 15)) ∧ match law with
  | none => gI S 13 4 = 0
  | some ls => ls ≠ [] ∧ (∀ l ∈ ls, okL l) ∧ (sgs ls).length ≤ 121 ∧ gI S 13 4 = (sgs ls).length ∧ ∀ q, gR S 13 3 = some q → At (gI S q) 0 (sgs ls)
def LM (law : Option (List Lin)) (S : Mem) : Prop := match law with
  | none => gI S 56 30 = 0
  | some ls => (∀ l ∈ ls, okL l) ∧ (sgs ls).length ≤ 121 ∧ ls.length ≤ 61 ∧ gI S 56 30 = 1 ∧ gI S 72 0 = ls.length ∧ At (gI S 70) 0 ((ls.flatMap stL).map Prod.fst) ∧ At (gI S 71) 0 ((ls.flatMap stL).map Prod.snd) ∧ At (gI S 73) 0 (endsT 0 ls) ∧ At (gI S 74) 0 (endsL 0 ls)
theorem ask_of {b nW nP nB : Nat} {law : Option (List Lin)} {Sc Sm : Mem} (h : Inv b nW nP nB law Sc Sm) : NR (nu Sc) nW nP ∧ OC (nu Sc) nW nP Sc ∧ OM (nu Sc) nW nP Sm ∧ LC law Sc ∧ LM law Sm := by
  obtain ⟨g0, ⟨o1, o2, o3, o4, o5⟩, g2, g3, ⟨g4, g4'⟩, -⟩ := h
  refine ⟨⟨o1, fun w i a b => (o4 w i a b).2⟩, ⟨g0, o2, fun _ _ _ _ => rfl⟩, ⟨o3, fun w i a b => (o4 w i a b).1⟩, ⟨g4, ?_⟩, ?_⟩
  · cases law with
    | none => exact g4'.1
    | some ls => exact ⟨g4'.1, g4'.2.1, g4'.2.2.1, g4'.2.2.2.2.1, g4'.2.2.2.2.2.1⟩
  · cases law with
    | none => exact g4'.2
    | some ls => exact ⟨g4'.2.1, g4'.2.2.1, g4'.2.2.2.1, g4'.2.2.2.2.2.2⟩
theorem OC_of {N : Nat → Nat → Int} {nW nP : Nat} {S S' : Mem} (h : OC N nW nP S) (hc : ∀ c, (c = 1 ∨ (3 ≤ c ∧ c ≤ 12)) → gI S' c = gI S c) (hr : gR S' 2 = gR S 2) (hr' : gR S' 23 = gR S 23) : OC N nW nP S' := by
  refine ⟨Shp_of h.1 hr hr', by rw [hc 1 (Or.inl rfl)]; exact h.2.1, fun w i hw hi => ?_⟩
  rw [← h.2.2 w i hw hi]
  unfold nu
  rw [hc (3 + w) (by omega)]
theorem OM_of {N : Nat → Nat → Int} {nW nP : Nat} {S S' : Mem} (h : OM N nW nP S) (hc : ∀ c, (57 ≤ c ∧ c ≤ 64) → gI S' c = gI S c) (h1 : gI S' 56 1 = gI S 56 1) (h7 : gI S' 56 7 = gI S 56 7) : OM N nW nP S' := by
  refine ⟨by rw [h1, h7]; exact h.1, fun w i hw hi => ?_⟩
  rw [← h.2 w i hw hi]
  unfold mu
  by_cases q : w < 7
  · rw [if_pos q, if_pos q, hc (57 + w) (by omega)]
  · rw [if_neg q, if_neg q, hc 64 (by omega)]
theorem LC_of {law : Option (List Lin)} {S S' : Mem} (h : LC law S) (h1 : gI S' 13 4 = gI S 13 4) (h2 : gI S' 15 = gI S 15) (h3 : gI S' 16 = gI S 16) (hr : gR S' 13 = gR S 13) : LC law S' := by
  obtain ⟨h0, h⟩ := h
  refine ⟨by rw [hr]; exact h0, ?_⟩
  cases law with
  | none => exact h1.trans h
  | some ls =>
    obtain ⟨a1, a2, a3, a4, a5⟩ := h
    refine ⟨a1, a2, a3, h1.trans a4, fun q hq => ?_⟩
    rw [hr] at hq
    have h9 := a5 q hq
    rcases h0 with z | z
    · rw [z.1] at hq; cases hq; rw [h2]; exact h9
    · rw [z.1] at hq; cases hq; rw [h3]; exact h9
theorem LM_of {law : Option (List Lin)} {S S' : Mem} (h : LM law S) (hc : ∀ c, (70 ≤ c ∧ c ≤ 74) → gI S' c = gI S c) (h1 : gI S' 56 30 = gI S 56 30) : LM law S' := by
  unfold LM
  rw [hc 70 (by omega), hc 71 (by omega), hc 72 (by omega), hc 73 (by omega), hc 74 (by omega), h1]
  exact h
theorem val_o {N : Nat → Nat → Int} {nW nP : Nat} {S : Mem} (hN : NR N nW nP) (h : OC N nW nP S) {n w : Nat} (hw : w < 10) (hn : n < lim nW nP w) : g_X5_value (n : Int) (w : Int) S = some (N w n) := by
  rw [val_n h.1 hN.1 h.2.1.1 h.2.1.2 hw hn, h.2.2 w n hw hn]
-- what stands on a pile, the latest first
def Pl (f : Nat → Int) : List Int → Prop
  | [] => True
  | a :: r => f r.length = a ∧ Pl f r
theorem Pl_c {f g : Nat → Int} : ∀ (st : List Int), (∀ k, k < st.length → g k = f k) → Pl f st → Pl g st
  | [], _, _ => trivial
  | a :: r, h, p => ⟨(h r.length (Nat.lt_succ_self _)).trans p.1, Pl_c r (fun k hk => h k (Nat.lt_succ_of_lt hk)) p.2⟩
theorem At_cons {f : Nat → Int} {i : Nat} {a : Int} {l : List Int} (h : At f i (a :: l)) : f i = a ∧ At f (i + 1) l := by
  refine ⟨h 0 (Nat.succ_pos _), fun k hk => ?_⟩
  have := h (k + 1) (Nat.succ_lt_succ hk)
  rw [show i + 1 + k = i + (k + 1) by omega]
  exact this
theorem At_app {f : Nat → Int} {i : Nat} {a b : List Int} (h : At f i (a ++ b)) : At f i a ∧ At f (i + a.length) b := by
  refine ⟨fun k hk => ?_, fun k hk => ?_⟩
  · rw [h k (by rw [List.length_append]; omega), List.getD_eq_getElem?_getD, List.getD_eq_getElem?_getD, List.getElem?_append_left hk]
  · rw [show i + a.length + k = i + (a.length + k) by omega, h (a.length + k) (by rw [List.length_append]; omega), List.getD_eq_getElem?_getD, List.getD_eq_getElem?_getD, List.getElem?_append_right (Nat.le_add_right _ _), Nat.add_sub_cancel_left]
theorem At_c {f g : Nat → Int} {i : Nat} {l : List Int} (h : At f i l) (e : ∀ k, k < l.length → g (i + k) = f (i + k)) : At g i l := fun k hk => (e k hk).trans (h k hk)
theorem stp_len {F : Nat → Int} {q : TSt} {st : List Int} {d : Nat} (h : dp [q] st.length = some d) : (stp F q st).length = d := by
  unfold dp at h
  unfold stp
  by_cases c1 : q.1 = 1
  · rw [if_pos (Or.inl c1)] at h
    rw [if_pos c1]
    cases h
    rfl
  · by_cases c2 : q.1 = 2
    · rw [if_pos (Or.inr c2)] at h
      rw [if_neg c1, if_pos c2]
      cases h
      rfl
    · rw [if_neg (by omega)] at h
      rw [if_neg c1, if_neg c2]
      by_cases c3 : q.1 = 3 ∨ q.1 = 4
      · rw [if_pos c3] at h
        cases st with
        | nil => rw [if_neg (by decide)] at h; cases h
        | cons a r =>
          rw [if_pos (show 1 ≤ (a :: r).length from Nat.succ_pos _)] at h
          cases h
          rcases c3 with c3 | c3
          · show (if q.1 = 3 then _ else _ : List Int).length = _
            rw [if_pos c3]
            rfl
          · show (if q.1 = 3 then _ else if q.1 = 4 then _ else _ : List Int).length = _
            rw [if_neg (by omega), if_pos c3]
            rfl
      · rw [if_neg c3] at h
        match st with
        | [] => rw [if_neg (by decide)] at h; cases h
        | [a] => rw [if_neg (by show ¬ 2 ≤ 1; decide)] at h; cases h
        | a :: b :: r =>
          rw [if_pos (by show 2 ≤ r.length + 1 + 1; omega)] at h
          cases h
          show (if q.1 = 3 then _ else if q.1 = 4 then _ else _ : List Int).length = _
          rw [if_neg (by omega), if_neg (by omega)]
          rfl
theorem dp_e (q : TSt) (qs : List TSt) (d : Nat) : dp (q :: qs) d = if q.1 = 1 ∨ q.1 = 2 then dp qs (d + 1) else if q.1 = 3 ∨ q.1 = 4 then (if 1 ≤ d then dp qs d else none) else if 2 ≤ d then dp qs (d - 1) else none := rfl
theorem dp_cons {q : TSt} {qs : List TSt} {d d' : Nat} (h : dp (q :: qs) d = some d') : ∃ e, dp [q] d = some e ∧ dp qs e = some d' ∧ e ≤ d + 1 := by
  rw [dp_e] at h ⊢
  by_cases c1 : q.1 = 1 ∨ q.1 = 2
  · rw [if_pos c1] at h
    rw [if_pos c1]
    exact ⟨d + 1, rfl, h, Nat.le_refl _⟩
  · rw [if_neg c1] at h
    rw [if_neg c1]
    by_cases c2 : q.1 = 3 ∨ q.1 = 4
    · rw [if_pos c2] at h
      rw [if_pos c2]
      by_cases c3 : 1 ≤ d
      · rw [if_pos c3] at h
        rw [if_pos c3]
        exact ⟨d, rfl, h, Nat.le_succ _⟩
      · rw [if_neg c3] at h; cases h
    · rw [if_neg c2] at h
      rw [if_neg c2]
      by_cases c3 : 2 ≤ d
      · rw [if_pos c3] at h
        rw [if_pos c3]
        exact ⟨d - 1, rfl, h, by omega⟩
      · rw [if_neg c3] at h; cases h
theorem run_len {F : Nat → Int} : ∀ (qs : List TSt) (st : List Int) {d : Nat}, dp qs st.length = some d → (run F qs st).length = d
  | [], st, d, h => by cases h; rfl
  | q :: qs, st, d, h => by
    obtain ⟨e, h1, h2, -⟩ := dp_cons h
    have h3 := stp_len (F := F) h1
    rw [← h3] at h2
    exact run_len qs (stp F q st) h2
theorem run_val {F : Nat → Int} {es : List TSt} (h : WF es) : run F es [] = [val F es] := by
  have e := run_len (F := F) es [] (h.2 0)
  unfold val
  match run F es [], e with
  | [a], _ => rfl
theorem wo_v (o a b : Int) (h : o ∈ ([43, 45, 42, 47, 37, 60, 61, 62, 38, 124] : List Int)) : g_X4_workedOut o a b = some (two o a b) := by
  simp only [List.mem_cons, List.not_mem_nil, or_false] at h
  rcases h with rfl | rfl | rfl | rfl | rfl | rfl | rfl | rfl | rfl | rfl <;> unfold g_X4_workedOut two chk <;> simp <;> (repeat' split) <;> first | rfl | omega | simp_all
theorem to_v (o a b : Int) (h : o ∈ ([43, 45, 42, 47, 37, 60, 61, 62, 38, 124] : List Int)) : g_X10_twoOf o a b = some (two o a b) := by
  simp only [List.mem_cons, List.not_mem_nil, or_false] at h
  rcases h with rfl | rfl | rfl | rfl | rfl | rfl | rfl | rfl | rfl | rfl <;> unfold g_X10_twoOf two chk <;> simp <;> (repeat' split) <;> first | rfl | omega | simp_all
