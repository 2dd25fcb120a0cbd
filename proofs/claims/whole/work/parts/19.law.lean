/-! THE LAW: its loop, over both memories -/
/-- both memories as one -/
def cmb (Sc Sm : Mem) : Mem := (fun c k => if c < 56 then Sc.1 c k else Sm.1 c k, fun c k => if c < 56 then Sc.2 c k else Sm.2 c k)
theorem cmb_self (S : Mem) : cmb S S = S := by
  unfold cmb
  simp only [ite_self]
theorem lensC (Sm : Mem) : Lens (fun z => cmb z Sm) PC := by
  refine ⟨fun S c k h => if_pos h, fun S c k h => if_pos h, fun S c k v h => ?_, fun S c k v h => ?_, fun S a i b j n ha hb => ?_⟩
  · unfold sI cmb
    dsimp only
    congr 1
    funext c' k'
    by_cases q : c' = c ∧ k' = k
    · rw [if_pos q, if_pos (show c' < 56 by rw [q.1]; exact h), if_pos q]
    · rw [if_neg q, if_neg q]
  · unfold sR cmb
    dsimp only
    congr 1
    funext c' k'
    by_cases q : c' = c ∧ k' = k
    · rw [if_pos q, if_pos (show c' < 56 by rw [q.1]; exact h), if_pos q]
    · rw [if_neg q, if_neg q]
  · unfold cpI cmb
    dsimp only
    congr 1
    funext c' k'
    rw [if_pos (show a < 56 from ha)]
    by_cases q : c' = b ∧ j ≤ k' ∧ k' < j + n
    · rw [if_pos q, if_pos (show c' < 56 by rw [q.1]; exact hb), if_pos q]
    · rw [if_neg q, if_neg q]
theorem lensM (Sc : Mem) : Lens (fun z => cmb Sc z) PM := by
  refine ⟨fun S c k h => if_neg (Nat.not_lt.mpr h), fun S c k h => if_neg (Nat.not_lt.mpr h), fun S c k v h => ?_, fun S c k v h => ?_, fun S a i b j n ha hb => ?_⟩
  · unfold sI cmb
    dsimp only
    congr 1
    funext c' k'
    by_cases q : c' = c ∧ k' = k
    · rw [if_pos q, if_neg (show ¬ c' < 56 by rw [q.1]; exact Nat.not_lt.mpr h), if_pos q]
    · rw [if_neg q, if_neg q]
  · unfold sR cmb
    dsimp only
    congr 1
    funext c' k'
    by_cases q : c' = c ∧ k' = k
    · rw [if_pos q, if_neg (show ¬ c' < 56 by rw [q.1]; exact Nat.not_lt.mpr h), if_pos q]
    · rw [if_neg q, if_neg q]
  · unfold cpI cmb
    dsimp only
    congr 1
    funext c' k'
    rw [if_neg (show ¬ a < 56 from Nat.not_lt.mpr ha)]
    by_cases q : c' = b ∧ j ≤ k' ∧ k' < j + n
    · rw [if_pos q, if_neg (show ¬ c' < 56 by rw [q.1]; exact Nat.not_lt.mpr hb), if_pos q]
    · rw [if_neg q, if_neg q]
def scr (L : Nat) (xs : Nat → Int) (i : Int) : Option Int := if 0 ≤ i ∧ i < L then some (xs i.toNat) else none
/-- the script, at a walk's start -/
def SX (X : K0) (b L : Nat) (xs : Nat → Int) : Prop := match X with
  | (p, l, e, R, s, m, args, below, meth, c, A, D, cA, f, nL) => (∃ ys : Nat → Int32, va_X b L ys s s.heap ∧ ∀ i, xs i = (ys i).toInt) ∧ b < s.heap.size ∧ ¬ A b ∧ L ≤ 3072
section JL
variable {X : K0} {cc : ByteArray} {own : String} {d : Nat} {B : Nat → Nat} {n k2 k3 pc : Nat} {L : List (Nat × AV)} {st : List AV} {M : Mem} {Q : State → Prop} {b Ln : Nat} {xs : Nat → Int}
theorem j_aloadX (hX : Ctx X cc own d) {q : Fin 4} {i : Nat} {v : Nat} (k : Nat) (hd : decode cc pc = .ok (.aload_n q, 1)) (hi : (q : Nat) = i) (hk : L[k]? = some (i, vX (.ref v))) (kk : JW X B n k2 k3 (pc + 1) L (vX (.ref v) :: st) M Q) : JW X B n k2 k3 pc L (st) M Q := by
  obtain ⟨p, l, e, R, s, m, args, below, meth, c, A, D, cA, f, nL⟩ := X
  obtain ⟨hx, hb, hml, hown, hts, hK, hA, hSF, hdf, hdl⟩ := hX
  intro hrL hrS hM hSH hW H locs ls hP hS hl
  exact lv_aload_n hx hb hd hi (lv_at hl k (lm_get hk)) (kk hrL (rcons (hrL _ (List.mem_of_getElem? hk)) hrS) hM hSH hW H locs ls hP hS hl)
theorem j_slen (hX : Ctx X cc own d) (hs : SX X b Ln xs) (hd : decode cc pc = .ok (.arraylength, 1)) (kk : JW X B n k2 k3 (pc + 1) L (vI (Ln : Int) :: st) M Q) : JW X B n k2 k3 pc L (vX (.ref b) :: st) M Q := by
  obtain ⟨p, l, e, R, s, m, args, below, meth, c, A, D, cA, f, nL⟩ := X
  obtain ⟨hx, hb, hml, hown, hts, hK, hA, hSF, hdf, hdl⟩ := hX
  obtain ⟨⟨ys, hXs, -⟩, hbl, hbA, hL⟩ := hs
  intro hrL hrS hM hSH hW H locs ls hP hS hl
  refine va_slen hx hb hXs hbl hbA hS hd ?_
  rw [q_nN (by omega)]
  exact (kk hrL (rcons (show rg n (vI (Ln : Int)) from by show r32 _; unfold r32; omega) (rt hrS)) hM hSH hW H locs ls hP hS hl)
theorem j_sld (hX : Ctx X cc own d) (hs : SX X b Ln xs) {i v : Int} (hv : scr Ln xs i = some v) (hd : decode cc pc = .ok (.iaload, 1)) (kk : JW X B n k2 k3 (pc + 1) L (vI v :: st) M Q) : JW X B n k2 k3 pc L (vI i :: vX (.ref b) :: st) M Q := by
  obtain ⟨p, l, e, R, s, m, args, below, meth, c, A, D, cA, f, nL⟩ := X
  obtain ⟨hx, hb, hml, hown, hts, hK, hA, hSF, hdf, hdl⟩ := hX
  obtain ⟨⟨ys, hXs, hxs⟩, hbl, hbA, hL⟩ := hs
  intro hrL hrS hM hSH hW H locs ls hP hS hl
  have hi : (0 ≤ i ∧ i < Ln) ∧ v = xs i.toNat := by
    unfold scr at hv
    split at hv
    · next q => exact ⟨q, (Option.some.inj hv).symm⟩
    · cases hv
  obtain ⟨hi, rfl⟩ := hi
  have en := q_nat hi.1 (rh hrS)
  have E0 := kk hrL (rcons (show rg n (vI (xs i.toNat)) from by rw [hxs]; exact q_r _) (rt (rt hrS))) hM hSH hW H locs ls hP hS hl
  have e2 : cv B (vI (xs i.toNat)) = .int (ys (Int32.ofInt i).toNatClampNeg) := by
    show Value.int (Int32.ofInt _) = _
    rw [hxs, q_back, en]
  rw [List.map_cons, e2] at E0
  exact va_sld hx hb hXs hbl hbA hS (q_in (rh hrS) hi.1 hi.2) hd E0
end JL
def g_law_c0 (L : Nat) (xs : Nat → Int) (rec : Int → Mem → Mem → Option Unit) (v3 : Int) (Sc Sm : Mem) : Option Unit := (scr L xs (w32 (v3 + 1))).bind fun x2 => (scr L xs (w32 (v3 + 2))).bind fun x3 => bd2 (g_X9_word x2 x3 Sc) fun r4 S5 => (scr L xs (w32 (v3 + 1))).bind fun x6 => (scr L xs (w32 (v3 + 2))).bind fun x7 => bd2 (g_X10_word x6 x7 Sm) fun r8 S9 => if r4 = r8 then rec (w32 (v3 + 6)) S5 S9 else none
def g_law_c1 (L : Nat) (xs : Nat → Int) (rec : Int → Mem → Mem → Option Unit) (v3 : Int) (Sc Sm : Mem) : Option Unit := (scr L xs (w32 (v3 + 1))).bind fun x10 => (scr L xs (w32 (v3 + 2))).bind fun x11 => (scr L xs (w32 (v3 + 3))).bind fun x12 => bd2 (g_X9_words x10 x11 x12 Sc) fun r13 S14 => (scr L xs (w32 (v3 + 1))).bind fun x15 => (scr L xs (w32 (v3 + 2))).bind fun x16 => (scr L xs (w32 (v3 + 3))).bind fun x17 => bd2 (g_X10_words x15 x16 x17 Sm) fun r18 S19 => if r13 = r18 then rec (w32 (v3 + 6)) S14 S19 else none
def g_law_c2 (L : Nat) (xs : Nat → Int) (rec : Int → Mem → Mem → Option Unit) (v3 : Int) (Sc Sm : Mem) : Option Unit := (scr L xs (w32 (v3 + 1))).bind fun x20 => bd2 (g_X9_person x20 Sc) fun r21 S22 => (scr L xs (w32 (v3 + 1))).bind fun x23 => bd2 (g_X10_person x23 Sm) fun r24 S25 => if r21 = r24 then rec (w32 (v3 + 6)) S22 S25 else none
def g_law_c3 (L : Nat) (xs : Nat → Int) (rec : Int → Mem → Mem → Option Unit) (v3 : Int) (Sc Sm : Mem) : Option Unit := (scr L xs (w32 (v3 + 1))).bind fun x26 => (scr L xs (w32 (v3 + 2))).bind fun x27 => (scr L xs (w32 (v3 + 3))).bind fun x28 => bd2 (g_X9_mend x26 x27 x28 Sc) fun r29 S30 => (scr L xs (w32 (v3 + 1))).bind fun x31 => (scr L xs (w32 (v3 + 2))).bind fun x32 => (scr L xs (w32 (v3 + 3))).bind fun x33 => bd2 (g_X10_mend x31 x32 x33 Sm) fun r34 S35 => if r29 = r34 then rec (w32 (v3 + 6)) S30 S35 else none
def g_law_c4 (L : Nat) (xs : Nat → Int) (rec : Int → Mem → Mem → Option Unit) (v3 : Int) (Sc Sm : Mem) : Option Unit := (scr L xs (w32 (v3 + 1))).bind fun x36 => (scr L xs (w32 (v3 + 2))).bind fun x37 => (g_X9_of x36 x37 Sc).bind fun r38 => (scr L xs (w32 (v3 + 1))).bind fun x39 => (scr L xs (w32 (v3 + 2))).bind fun x40 => (g_X10_of x39 x40 Sm).bind fun r41 => if r38 = r41 then rec (w32 (v3 + 6)) Sc Sm else none
def g_law_c5 (L : Nat) (xs : Nat → Int) (rec : Int → Mem → Mem → Option Unit) (v3 : Int) (Sc Sm : Mem) : Option Unit := (scr L xs (w32 (v3 + 1))).bind fun x42 => bd2 (g_X9_feed x42 Sc) fun r43 S44 => (scr L xs (w32 (v3 + 1))).bind fun x45 => bd2 (g_X10_feed x45 Sm) fun r46 S47 => if r43 = r46 then rec (w32 (v3 + 6)) S44 S47 else none
def g_law_c6 (L : Nat) (xs : Nat → Int) (rec : Int → Mem → Mem → Option Unit) (v3 : Int) (Sc Sm : Mem) : Option Unit := bd2 (g_X9_law Sc) fun r48 S49 => bd2 (g_X10_law Sm) fun r50 S51 => if r48 = r50 then rec (w32 (v3 + 6)) S49 S51 else none
def g_law_c7 (L : Nat) (xs : Nat → Int) (rec : Int → Mem → Mem → Option Unit) (v3 : Int) (Sc Sm : Mem) : Option Unit := (scr L xs (w32 (v3 + 1))).bind fun x52 => (scr L xs (w32 (v3 + 2))).bind fun x53 => bd2 (g_X9_price x52 x53 Sc) fun r54 S55 => (scr L xs (w32 (v3 + 1))).bind fun x56 => (scr L xs (w32 (v3 + 2))).bind fun x57 => bd2 (g_X10_price x56 x57 Sm) fun r58 S59 => if r54 = r58 then rec (w32 (v3 + 6)) S55 S59 else none
def g_law_c8 (L : Nat) (xs : Nat → Int) (rec : Int → Mem → Mem → Option Unit) (v3 : Int) (Sc Sm : Mem) : Option Unit := (scr L xs (w32 (v3 + 1))).bind fun x60 => (scr L xs (w32 (v3 + 2))).bind fun x61 => bd2 (g_X9_wire x60 x61 Sc) fun r62 S63 => (scr L xs (w32 (v3 + 1))).bind fun x64 => (scr L xs (w32 (v3 + 2))).bind fun x65 => bd2 (g_X10_wire x64 x65 Sm) fun r66 S67 => if r62 = r66 then rec (w32 (v3 + 6)) S63 S67 else none
def g_law_c9 (L : Nat) (xs : Nat → Int) (rec : Int → Mem → Mem → Option Unit) (v3 : Int) (Sc Sm : Mem) : Option Unit := (scr L xs (w32 (v3 + 1))).bind fun x68 => (scr L xs (w32 (v3 + 2))).bind fun x69 => bd2 (g_X9_say x68 x69 Sc) fun r70 S71 => (scr L xs (w32 (v3 + 1))).bind fun x72 => (scr L xs (w32 (v3 + 2))).bind fun x73 => bd2 (g_X10_say x72 x73 Sm) fun r74 S75 => if r70 = r74 then rec (w32 (v3 + 6)) S71 S75 else none
def g_law_c10 (L : Nat) (xs : Nat → Int) (rec : Int → Mem → Mem → Option Unit) (v3 : Int) (Sc Sm : Mem) : Option Unit := (scr L xs (w32 (v3 + 1))).bind fun x76 => (scr L xs (w32 (v3 + 2))).bind fun x77 => bd2 (g_X9_allFor x76 x77 Sc) fun r78 S79 => (scr L xs (w32 (v3 + 1))).bind fun x80 => (scr L xs (w32 (v3 + 2))).bind fun x81 => bd2 (g_X10_allFor x80 x81 Sm) fun r82 S83 => if r78 = r82 then rec (w32 (v3 + 6)) S79 S83 else none
def g_law_c11 (L : Nat) (xs : Nat → Int) (rec : Int → Mem → Mem → Option Unit) (v3 : Int) (Sc Sm : Mem) : Option Unit := (scr L xs (w32 (v3 + 1))).bind fun x84 => bd2 (g_X9_tooDear x84 Sc) fun r85 S86 => (scr L xs (w32 (v3 + 1))).bind fun x87 => bd2 (g_X10_tooDear x87 Sm) fun r88 S89 => if r85 = r88 then rec (w32 (v3 + 6)) S86 S89 else none
def g_law_c12 (L : Nat) (xs : Nat → Int) (rec : Int → Mem → Mem → Option Unit) (v3 : Int) (Sc Sm : Mem) : Option Unit := (scr L xs (w32 (v3 + 1))).bind fun x90 => (scr L xs (w32 (v3 + 2))).bind fun x91 => (scr L xs (w32 (v3 + 3))).bind fun x92 => (g_X9_year x90 x91 x92 Sc).bind fun r93 => (scr L xs (w32 (v3 + 1))).bind fun x94 => (scr L xs (w32 (v3 + 2))).bind fun x95 => (scr L xs (w32 (v3 + 3))).bind fun x96 => (g_X10_year x94 x95 x96 Sm).bind fun r97 => if r93 = r97 then rec (w32 (v3 + 6)) Sc Sm else none
def g_law_c13 (L : Nat) (xs : Nat → Int) (rec : Int → Mem → Mem → Option Unit) (v3 : Int) (Sc Sm : Mem) : Option Unit := (scr L xs (w32 (v3 + 1))).bind fun x98 => bd2 (g_X9_came x98 Sc) fun r99 S100 => (scr L xs (w32 (v3 + 1))).bind fun x101 => bd2 (g_X10_came x101 Sm) fun r102 S103 => if (lcm r99 r102) = 0 then rec (w32 (v3 + 6)) S100 S103 else none
def g_law_c14 (L : Nat) (xs : Nat → Int) (rec : Int → Mem → Mem → Option Unit) (v3 : Int) (Sc Sm : Mem) : Option Unit := (scr L xs (w32 (v3 + 1))).bind fun x104 => (scr L xs (w32 (v3 + 2))).bind fun x105 => bd2 (g_X9_cameAs x104 x105 Sc) fun r106 S107 => (scr L xs (w32 (v3 + 1))).bind fun x108 => (scr L xs (w32 (v3 + 2))).bind fun x109 => bd2 (g_X10_cameAs x108 x109 Sm) fun r110 S111 => if r106 = r110 then rec (w32 (v3 + 6)) S107 S111 else none
def g_law_c15 (L : Nat) (xs : Nat → Int) (rec : Int → Mem → Mem → Option Unit) (v3 : Int) (Sc Sm : Mem) : Option Unit := (scr L xs (w32 (v3 + 1))).bind fun x112 => (scr L xs (w32 (v3 + 2))).bind fun x113 => (scr L xs (w32 (v3 + 3))).bind fun x114 => bd2 (g_X9_meant x112 x113 x114 Sc) fun r115 S116 => (scr L xs (w32 (v3 + 1))).bind fun x117 => (scr L xs (w32 (v3 + 2))).bind fun x118 => (scr L xs (w32 (v3 + 3))).bind fun x119 => bd2 (g_X10_meant x117 x118 x119 Sm) fun r120 S121 => if (lcm r115 r120) = 0 then rec (w32 (v3 + 6)) S116 S121 else none
def g_law_c16 (L : Nat) (xs : Nat → Int) (rec : Int → Mem → Mem → Option Unit) (v3 : Int) (Sc Sm : Mem) : Option Unit := (scr L xs (w32 (v3 + 1))).bind fun x122 => bd2 (g_X9_certain x122 Sc) fun r123 S124 => (scr L xs (w32 (v3 + 1))).bind fun x125 => bd2 (g_X10_certain x125 Sm) fun r126 S127 => if r123 = r126 then rec (w32 (v3 + 6)) S124 S127 else none
def g_law_c17 (L : Nat) (xs : Nat → Int) (rec : Int → Mem → Mem → Option Unit) (v3 : Int) (Sc Sm : Mem) : Option Unit := (scr L xs (w32 (v3 + 1))).bind fun x128 => (scr L xs (w32 (v3 + 2))).bind fun x129 => bd2 (g_X9_safe x128 x129 Sc) fun r130 S131 => (scr L xs (w32 (v3 + 1))).bind fun x132 => (scr L xs (w32 (v3 + 2))).bind fun x133 => bd2 (g_X10_safe x132 x133 Sm) fun r134 S135 => if (lcm r130 r134) = 0 then rec (w32 (v3 + 6)) S131 S135 else none
def g_law_c18 (L : Nat) (xs : Nat → Int) (rec : Int → Mem → Mem → Option Unit) (v3 : Int) (Sc Sm : Mem) : Option Unit := (scr L xs (w32 (v3 + 1))).bind fun x136 => (scr L xs (w32 (v3 + 2))).bind fun x137 => bd2 (g_X9_unsigned x136 x137 Sc) fun r138 S139 => (scr L xs (w32 (v3 + 1))).bind fun x140 => (scr L xs (w32 (v3 + 2))).bind fun x141 => bd2 (g_X10_unsigned x140 x141 Sm) fun r142 S143 => if r138 = r142 then rec (w32 (v3 + 6)) S139 S143 else none
def g_law_c19 (L : Nat) (xs : Nat → Int) (rec : Int → Mem → Mem → Option Unit) (v3 : Int) (Sc Sm : Mem) : Option Unit := (scr L xs (w32 (v3 + 1))).bind fun x144 => (scr L xs (w32 (v3 + 2))).bind fun x145 => (scr L xs (w32 (v3 + 3))).bind fun x146 => (g_X9_club x144 x145 x146 Sc).bind fun r147 => (scr L xs (w32 (v3 + 1))).bind fun x148 => (scr L xs (w32 (v3 + 2))).bind fun x149 => (scr L xs (w32 (v3 + 3))).bind fun x150 => (g_X10_club x148 x149 x150 Sm).bind fun r151 => if r147 = r151 then rec (w32 (v3 + 6)) Sc Sm else none
def g_law_c20 (L : Nat) (xs : Nat → Int) (rec : Int → Mem → Mem → Option Unit) (v3 : Int) (Sc Sm : Mem) : Option Unit := (scr L xs (w32 (v3 + 1))).bind fun x152 => (g_X9_lacks x152 Sc).bind fun r153 => (scr L xs (w32 (v3 + 1))).bind fun x154 => (g_X10_lacks x154 Sm).bind fun r155 => if r153 = r155 then rec (w32 (v3 + 6)) Sc Sm else none
def g_law_c21 (L : Nat) (xs : Nat → Int) (rec : Int → Mem → Mem → Option Unit) (v3 : Int) (Sc Sm : Mem) : Option Unit := (scr L xs (w32 (v3 + 1))).bind fun x156 => (scr L xs (w32 (v3 + 2))).bind fun x157 => (scr L xs (w32 (v3 + 3))).bind fun x158 => (g_X9_drawn x156 x157 x158 Sc).bind fun r159 => (scr L xs (w32 (v3 + 1))).bind fun x160 => (scr L xs (w32 (v3 + 2))).bind fun x161 => (scr L xs (w32 (v3 + 3))).bind fun x162 => bd2 (g_X10_drawn x160 x161 x162 Sm) fun r163 S164 => if r159 = r163 then rec (w32 (v3 + 6)) Sc S164 else none
def g_law_c22 (L : Nat) (xs : Nat → Int) (rec : Int → Mem → Mem → Option Unit) (v3 : Int) (Sc Sm : Mem) : Option Unit := (scr L xs (w32 (v3 + 1))).bind fun x165 => (scr L xs (w32 (v3 + 2))).bind fun x166 => bd2 (g_X9_send x165 x166 Sc) fun r167 S168 => (scr L xs (w32 (v3 + 1))).bind fun x169 => (scr L xs (w32 (v3 + 2))).bind fun x170 => bd2 (g_X10_send x169 x170 Sm) fun r171 S172 => if r167 = r171 then rec (w32 (v3 + 6)) S168 S172 else none
def g_law_c23 (L : Nat) (xs : Nat → Int) (rec : Int → Mem → Mem → Option Unit) (v3 : Int) (Sc Sm : Mem) : Option Unit := bd2 (g_X9_night Sc) fun r173 S174 => bd2 (g_X10_night Sm) fun r175 S176 => if r173 = r175 then rec (w32 (v3 + 6)) S174 S176 else none
def g_law_c24 (L : Nat) (xs : Nat → Int) (rec : Int → Mem → Mem → Option Unit) (v3 : Int) (Sc Sm : Mem) : Option Unit := (scr L xs (w32 (v3 + 1))).bind fun x177 => (g_X9_led x177 Sc).bind fun r178 => (scr L xs (w32 (v3 + 1))).bind fun x179 => (g_X10_led x179 Sm).bind fun r180 => if r178 = r180 then rec (w32 (v3 + 6)) Sc Sm else none
def g_law_c25 (L : Nat) (xs : Nat → Int) (rec : Int → Mem → Mem → Option Unit) (v3 : Int) (Sc Sm : Mem) : Option Unit := bd2 (g_X9_image Sc) fun r181 S182 => bd2 (g_X10_image Sm) fun r183 S184 => if r181 = r183 then rec (w32 (v3 + 6)) S182 S184 else none
def g_law_c26 (L : Nat) (xs : Nat → Int) (rec : Int → Mem → Mem → Option Unit) (v3 : Int) (Sc Sm : Mem) : Option Unit := bd2 (g_X9_back Sc) fun r185 S186 => bd2 (g_X10_back Sm) fun r187 S188 => if r185 = r187 then rec (w32 (v3 + 6)) S186 S188 else none
def g_law_c27 (L : Nat) (xs : Nat → Int) (rec : Int → Mem → Mem → Option Unit) (v3 : Int) (Sc Sm : Mem) : Option Unit := bd2 (g_X9_undo Sc) fun r189 S190 => bd2 (g_X10_undo Sm) fun r191 S192 => if r189 = r191 then rec (w32 (v3 + 6)) S190 S192 else none
def g_law_c28 (L : Nat) (xs : Nat → Int) (rec : Int → Mem → Mem → Option Unit) (v3 : Int) (Sc Sm : Mem) : Option Unit := bd2 (g_X9_redo Sc) fun r193 S194 => bd2 (g_X10_redo Sm) fun r195 S196 => if r193 = r195 then rec (w32 (v3 + 6)) S194 S196 else none
def g_law_c29 (L : Nat) (xs : Nat → Int) (rec : Int → Mem → Mem → Option Unit) (v3 : Int) (Sc Sm : Mem) : Option Unit := (scr L xs (w32 (v3 + 1))).bind fun x197 => bd2 (g_X9_body x197 Sc) fun r198 S199 => (scr L xs (w32 (v3 + 1))).bind fun x200 => bd2 (g_X10_body x200 Sm) fun r201 S202 => if r198 = r201 then rec (w32 (v3 + 6)) S199 S202 else none
def g_law_c30 (L : Nat) (xs : Nat → Int) (rec : Int → Mem → Mem → Option Unit) (v3 : Int) (Sc Sm : Mem) : Option Unit := (scr L xs (w32 (v3 + 1))).bind fun x203 => (scr L xs (w32 (v3 + 2))).bind fun x204 => (scr L xs (w32 (v3 + 3))).bind fun x205 => bd2 (g_X9_act x203 x204 x205 Sc) fun r206 S207 => (scr L xs (w32 (v3 + 1))).bind fun x208 => (scr L xs (w32 (v3 + 2))).bind fun x209 => (scr L xs (w32 (v3 + 3))).bind fun x210 => bd2 (g_X10_act x208 x209 x210 Sm) fun r211 S212 => if r206 = r211 then rec (w32 (v3 + 6)) S207 S212 else none
def g_law_c31 (L : Nat) (xs : Nat → Int) (rec : Int → Mem → Mem → Option Unit) (v3 : Int) (Sc Sm : Mem) : Option Unit := (scr L xs (w32 (v3 + 1))).bind fun x213 => (g_X9_trace x213 Sc).bind fun r214 => (scr L xs (w32 (v3 + 1))).bind fun x215 => (g_X10_trace x215 Sm).bind fun r216 => if r214 = r216 then rec (w32 (v3 + 6)) Sc Sm else none
def g_law_c32 (L : Nat) (xs : Nat → Int) (rec : Int → Mem → Mem → Option Unit) (v3 : Int) (Sc Sm : Mem) : Option Unit := (scr L xs (w32 (v3 + 1))).bind fun x217 => (scr L xs (w32 (v3 + 2))).bind fun x218 => bd2 (g_X9_keep x217 x218 Sc) fun r219 S220 => (scr L xs (w32 (v3 + 1))).bind fun x221 => (scr L xs (w32 (v3 + 2))).bind fun x222 => bd2 (g_X10_keep x221 x222 Sm) fun r223 S224 => if r219 = r223 then rec (w32 (v3 + 6)) S220 S224 else none
def g_law_c33 (L : Nat) (xs : Nat → Int) (rec : Int → Mem → Mem → Option Unit) (v3 : Int) (Sc Sm : Mem) : Option Unit := (scr L xs (w32 (v3 + 1))).bind fun x225 => (scr L xs (w32 (v3 + 2))).bind fun x226 => (scr L xs (w32 (v3 + 3))).bind fun x227 => bd2 (g_X9_row x225 x226 x227 Sc) fun r228 S229 => (scr L xs (w32 (v3 + 1))).bind fun x230 => (scr L xs (w32 (v3 + 2))).bind fun x231 => (scr L xs (w32 (v3 + 3))).bind fun x232 => bd2 (g_X10_row x230 x231 x232 Sm) fun r233 S234 => if r228 = r233 then rec (w32 (v3 + 6)) S229 S234 else none
def g_law_c34 (L : Nat) (xs : Nat → Int) (rec : Int → Mem → Mem → Option Unit) (v3 : Int) (Sc Sm : Mem) : Option Unit := (scr L xs (w32 (v3 + 1))).bind fun x235 => (scr L xs (w32 (v3 + 2))).bind fun x236 => (scr L xs (w32 (v3 + 3))).bind fun x237 => (scr L xs (w32 (v3 + 4))).bind fun x238 => bd2 (g_X9_put x235 x236 (o_lor (o_lshl x237 32) (o_land x238 4294967295)) Sc) fun r239 S240 => (scr L xs (w32 (v3 + 1))).bind fun x241 => (scr L xs (w32 (v3 + 2))).bind fun x242 => (scr L xs (w32 (v3 + 3))).bind fun x243 => (scr L xs (w32 (v3 + 4))).bind fun x244 => bd2 (g_X10_put x241 x242 (o_lor (o_lshl x243 32) (o_land x244 4294967295)) Sm) fun r245 S246 => if r239 = r245 then rec (w32 (v3 + 6)) S240 S246 else none
def g_law_c35 (L : Nat) (xs : Nat → Int) (rec : Int → Mem → Mem → Option Unit) (v3 : Int) (Sc Sm : Mem) : Option Unit := (scr L xs (w32 (v3 + 1))).bind fun x247 => (scr L xs (w32 (v3 + 2))).bind fun x248 => (g_X9_element x247 x248 Sc).bind fun r249 => (scr L xs (w32 (v3 + 1))).bind fun x250 => (scr L xs (w32 (v3 + 2))).bind fun x251 => (g_X10_element x250 x251 Sm).bind fun r252 => if (lcm r249 r252) = 0 then rec (w32 (v3 + 6)) Sc Sm else none
def g_law_c36 (L : Nat) (xs : Nat → Int) (rec : Int → Mem → Mem → Option Unit) (v3 : Int) (Sc Sm : Mem) : Option Unit := (scr L xs (w32 (v3 + 1))).bind fun x253 => (scr L xs (w32 (v3 + 2))).bind fun x254 => (scr L xs (w32 (v3 + 3))).bind fun x255 => (scr L xs (w32 (v3 + 4))).bind fun x256 => (scr L xs (w32 (v3 + 5))).bind fun x257 => bd2 (g_X9_shift x253 x254 x255 x256 x257 Sc) fun r258 S259 => (scr L xs (w32 (v3 + 1))).bind fun x260 => (scr L xs (w32 (v3 + 2))).bind fun x261 => (scr L xs (w32 (v3 + 3))).bind fun x262 => (scr L xs (w32 (v3 + 4))).bind fun x263 => (scr L xs (w32 (v3 + 5))).bind fun x264 => bd2 (g_X10_shift x260 x261 x262 x263 x264 Sm) fun r265 S266 => if r258 = r265 then rec (w32 (v3 + 6)) S259 S266 else none
def g_law_c37 (L : Nat) (xs : Nat → Int) (rec : Int → Mem → Mem → Option Unit) (v3 : Int) (Sc Sm : Mem) : Option Unit := (scr L xs (w32 (v3 + 1))).bind fun x267 => (scr L xs (w32 (v3 + 2))).bind fun x268 => (g_X9_taken x267 x268 Sc).bind fun r269 => (scr L xs (w32 (v3 + 1))).bind fun x270 => (scr L xs (w32 (v3 + 2))).bind fun x271 => (g_X10_taken x270 x271 Sm).bind fun r272 => if r269 = r272 then rec (w32 (v3 + 6)) Sc Sm else none
def g_law_c38 (L : Nat) (xs : Nat → Int) (rec : Int → Mem → Mem → Option Unit) (v3 : Int) (Sc Sm : Mem) : Option Unit := (scr L xs (w32 (v3 + 1))).bind fun x273 => (scr L xs (w32 (v3 + 1))).bind fun x274 => if (g_X9_count x273 Sc) = (g_X10_count x274 Sm) then rec (w32 (v3 + 6)) Sc Sm else none
def g_law_L18 (L : Nat) (xs : Nat → Int) : Nat → Int → Mem → Mem → Option Unit
  | 0, _, _, _ => none
  | fu + 1, v3, Sc, Sm => if (w32 (((L : Int)) - 6)) < v3 then some () else (scr L xs v3).bind fun x1 => (if (o_and x1 63) = 0 then g_law_c0 L xs (g_law_L18 L xs fu) v3 Sc Sm else if (o_and x1 63) = 1 then g_law_c1 L xs (g_law_L18 L xs fu) v3 Sc Sm else if (o_and x1 63) = 2 then g_law_c2 L xs (g_law_L18 L xs fu) v3 Sc Sm else if (o_and x1 63) = 3 then g_law_c3 L xs (g_law_L18 L xs fu) v3 Sc Sm else if (o_and x1 63) = 4 then g_law_c4 L xs (g_law_L18 L xs fu) v3 Sc Sm else if (o_and x1 63) = 5 then g_law_c5 L xs (g_law_L18 L xs fu) v3 Sc Sm else if (o_and x1 63) = 6 then g_law_c6 L xs (g_law_L18 L xs fu) v3 Sc Sm else if (o_and x1 63) = 7 then g_law_c7 L xs (g_law_L18 L xs fu) v3 Sc Sm else if (o_and x1 63) = 8 then g_law_c8 L xs (g_law_L18 L xs fu) v3 Sc Sm else if (o_and x1 63) = 9 then g_law_c9 L xs (g_law_L18 L xs fu) v3 Sc Sm else if (o_and x1 63) = 10 then g_law_c10 L xs (g_law_L18 L xs fu) v3 Sc Sm else if (o_and x1 63) = 11 then g_law_c11 L xs (g_law_L18 L xs fu) v3 Sc Sm else if (o_and x1 63) = 12 then g_law_c12 L xs (g_law_L18 L xs fu) v3 Sc Sm else if (o_and x1 63) = 13 then g_law_c13 L xs (g_law_L18 L xs fu) v3 Sc Sm else if (o_and x1 63) = 14 then g_law_c14 L xs (g_law_L18 L xs fu) v3 Sc Sm else if (o_and x1 63) = 15 then g_law_c15 L xs (g_law_L18 L xs fu) v3 Sc Sm else if (o_and x1 63) = 16 then g_law_c16 L xs (g_law_L18 L xs fu) v3 Sc Sm else if (o_and x1 63) = 17 then g_law_c17 L xs (g_law_L18 L xs fu) v3 Sc Sm else if (o_and x1 63) = 18 then g_law_c18 L xs (g_law_L18 L xs fu) v3 Sc Sm else if (o_and x1 63) = 19 then g_law_c19 L xs (g_law_L18 L xs fu) v3 Sc Sm else if (o_and x1 63) = 20 then g_law_c20 L xs (g_law_L18 L xs fu) v3 Sc Sm else if (o_and x1 63) = 21 then g_law_c21 L xs (g_law_L18 L xs fu) v3 Sc Sm else if (o_and x1 63) = 22 then g_law_c22 L xs (g_law_L18 L xs fu) v3 Sc Sm else if (o_and x1 63) = 23 then g_law_c23 L xs (g_law_L18 L xs fu) v3 Sc Sm else if (o_and x1 63) = 24 then g_law_c24 L xs (g_law_L18 L xs fu) v3 Sc Sm else if (o_and x1 63) = 25 then g_law_c25 L xs (g_law_L18 L xs fu) v3 Sc Sm else if (o_and x1 63) = 26 then g_law_c26 L xs (g_law_L18 L xs fu) v3 Sc Sm else if (o_and x1 63) = 27 then g_law_c27 L xs (g_law_L18 L xs fu) v3 Sc Sm else if (o_and x1 63) = 28 then g_law_c28 L xs (g_law_L18 L xs fu) v3 Sc Sm else if (o_and x1 63) = 29 then g_law_c29 L xs (g_law_L18 L xs fu) v3 Sc Sm else if (o_and x1 63) = 30 then g_law_c30 L xs (g_law_L18 L xs fu) v3 Sc Sm else if (o_and x1 63) = 31 then g_law_c31 L xs (g_law_L18 L xs fu) v3 Sc Sm else if (o_and x1 63) = 32 then g_law_c32 L xs (g_law_L18 L xs fu) v3 Sc Sm else if (o_and x1 63) = 33 then g_law_c33 L xs (g_law_L18 L xs fu) v3 Sc Sm else if (o_and x1 63) = 34 then g_law_c34 L xs (g_law_L18 L xs fu) v3 Sc Sm else if (o_and x1 63) = 35 then g_law_c35 L xs (g_law_L18 L xs fu) v3 Sc Sm else if (o_and x1 63) = 36 then g_law_c36 L xs (g_law_L18 L xs fu) v3 Sc Sm else if (o_and x1 63) = 37 then g_law_c37 L xs (g_law_L18 L xs fu) v3 Sc Sm else if (o_and x1 63) = 38 then g_law_c38 L xs (g_law_L18 L xs fu) v3 Sc Sm else g_law_L18 L xs fu (w32 (v3 + 6)) Sc Sm)
theorem sl_law_c0 {X : K0} {B : Nat → Nat} {n k2 k3 b L : Nat} {xs : Nat → Int} {Q : State → Prop} (hX : Ctx X code "TelegramFeelingsLaw" 1400) (hfl : (gX X).2.2.2.2 = true) (hnl : X.2.2.2.2.2.2.2.2.2.2.2.2.2.2 = 4) (hcs : k2 ≤ X.2.2.2.1.cells ∧ k3 ≤ X.2.2.2.1.slots) (hR1 : ∀ (pc : Nat) (L : List (Nat × AV)) (M : Mem), decode code pc = .ok (.ireturn, 1) → JW X B n k2 k3 pc L [vI 1] M Q) (hSX : SX X b L xs) {rec : Int → Mem → Mem → Option Unit} (ih : ∀ (v3 : Int) (Sc Sm : Mem), rec v3 Sc Sm = some () → JW X B n k2 k3 18 [(0, vX (.ref b)), (1, vR 0), (2, vR 56), (3, vI (v3))] [] (cmb Sc Sm) Q) {v3 : Int} {Sc Sm : Mem} (h : g_law_c0 L xs rec v3 Sc Sm = some ()) : JW X B n k2 k3 204 [(0, vX (.ref b)), (1, vR 0), (2, vR 56), (3, vI (v3))] [] (cmb Sc Sm) Q := by
  unfold g_law_c0 at h
  refine j_aload_n hX 1 dL_law_204 rfl rfl ?_
  refine j_aloadX hX 0 dL_law_205 rfl rfl ?_
  refine j_iload_n hX 3 dL_law_206 rfl rfl ?_
  refine j_iconst hX dL_law_207 (rc rfl) ?_
  refine j_iadd hX dL_law_208 ?_
  obtain ⟨x2, hv, h⟩ := bs h
  refine j_sld hX hSX hv dL_law_209 ?_
  refine j_aloadX hX 0 dL_law_210 rfl rfl ?_
  refine j_iload_n hX 3 dL_law_211 rfl rfl ?_
  refine j_iconst hX dL_law_212 (rc rfl) ?_
  refine j_iadd hX dL_law_213 ?_
  obtain ⟨x3, hv, h⟩ := bs h
  refine j_sld hX hSX hv dL_law_214 ?_
  obtain ⟨r4, S5, h1, h⟩ := bd2_s h
  refine j_callVI hX mwX9_word miX9_word wd432 cbX9 ty0 hyX9_word (by decide) (by decide) hcs dL_law_215 (s_X9_word (E := (fun z => cmb z Sm)) (S := Sc) hfl (lensC Sm) h1) npX9_word rfl (Nat.le_of_ble_eq_true rfl) ?_
  refine j_aload_n hX 2 dL_law_218 rfl rfl ?_
  refine j_aloadX hX 0 dL_law_219 rfl rfl ?_
  refine j_iload_n hX 3 dL_law_220 rfl rfl ?_
  refine j_iconst hX dL_law_221 (rc rfl) ?_
  refine j_iadd hX dL_law_222 ?_
  obtain ⟨x6, hv, h⟩ := bs h
  refine j_sld hX hSX hv dL_law_223 ?_
  refine j_aloadX hX 0 dL_law_224 rfl rfl ?_
  refine j_iload_n hX 3 dL_law_225 rfl rfl ?_
  refine j_iconst hX dL_law_226 (rc rfl) ?_
  refine j_iadd hX dL_law_227 ?_
  obtain ⟨x7, hv, h⟩ := bs h
  refine j_sld hX hSX hv dL_law_228 ?_
  obtain ⟨r8, S9, h1, h⟩ := bd2_s h
  refine j_callVI hX mwX10_word miX10_word wd1322 cbX10 ty56 hyX10_word (by decide) (by decide) hcs dL_law_229 (s_X10_word (E := (fun z => cmb S5 z)) (S := Sm) hfl (lensM S5) h1) npX10_word rfl (Nat.le_of_ble_eq_true rfl) ?_
  refine j_icmp_eq hX (tgt := 1425) dL_law_232 (by decide) (fun hc => ?_) (fun hc => ?_)
  · rw [if_pos hc] at h
    refine j_iinc (L' := [(3, vI (w32 (v3 + 6))), (0, vX (.ref b)), (1, vR 0), (2, vR 56)]) hX 3 dL_law_1425 hnl (by decide) rfl rfl ?_
    refine j_goto hX (tgt := 18) dL_law_1428 (by decide) ?_
    refine j_sub [1, 2, 3, 0] rfl ?_
    exact ih _ _ _ h
  · rw [if_neg hc] at h
    refine j_iconst hX dL_law_235 (rc rfl) ?_
    cases h
theorem sl_law_c1 {X : K0} {B : Nat → Nat} {n k2 k3 b L : Nat} {xs : Nat → Int} {Q : State → Prop} (hX : Ctx X code "TelegramFeelingsLaw" 1400) (hfl : (gX X).2.2.2.2 = true) (hnl : X.2.2.2.2.2.2.2.2.2.2.2.2.2.2 = 4) (hcs : k2 ≤ X.2.2.2.1.cells ∧ k3 ≤ X.2.2.2.1.slots) (hR1 : ∀ (pc : Nat) (L : List (Nat × AV)) (M : Mem), decode code pc = .ok (.ireturn, 1) → JW X B n k2 k3 pc L [vI 1] M Q) (hSX : SX X b L xs) {rec : Int → Mem → Mem → Option Unit} (ih : ∀ (v3 : Int) (Sc Sm : Mem), rec v3 Sc Sm = some () → JW X B n k2 k3 18 [(0, vX (.ref b)), (1, vR 0), (2, vR 56), (3, vI (v3))] [] (cmb Sc Sm) Q) {v3 : Int} {Sc Sm : Mem} (h : g_law_c1 L xs rec v3 Sc Sm = some ()) : JW X B n k2 k3 237 [(0, vX (.ref b)), (1, vR 0), (2, vR 56), (3, vI (v3))] [] (cmb Sc Sm) Q := by
  unfold g_law_c1 at h
  refine j_aload_n hX 1 dL_law_237 rfl rfl ?_
  refine j_aloadX hX 0 dL_law_238 rfl rfl ?_
  refine j_iload_n hX 3 dL_law_239 rfl rfl ?_
  refine j_iconst hX dL_law_240 (rc rfl) ?_
  refine j_iadd hX dL_law_241 ?_
  obtain ⟨x10, hv, h⟩ := bs h
  refine j_sld hX hSX hv dL_law_242 ?_
  refine j_aloadX hX 0 dL_law_243 rfl rfl ?_
  refine j_iload_n hX 3 dL_law_244 rfl rfl ?_
  refine j_iconst hX dL_law_245 (rc rfl) ?_
  refine j_iadd hX dL_law_246 ?_
  obtain ⟨x11, hv, h⟩ := bs h
  refine j_sld hX hSX hv dL_law_247 ?_
  refine j_aloadX hX 0 dL_law_248 rfl rfl ?_
  refine j_iload_n hX 3 dL_law_249 rfl rfl ?_
  refine j_iconst hX dL_law_250 (rc rfl) ?_
  refine j_iadd hX dL_law_251 ?_
  obtain ⟨x12, hv, h⟩ := bs h
  refine j_sld hX hSX hv dL_law_252 ?_
  obtain ⟨r13, S14, h1, h⟩ := bd2_s h
  refine j_callVI hX mwX9_words miX9_words wd459 cbX9 ty0 hyX9_words (by decide) (by decide) hcs dL_law_253 (s_X9_words (E := (fun z => cmb z Sm)) (S := Sc) hfl (lensC Sm) h1) npX9_words rfl (Nat.le_of_ble_eq_true rfl) ?_
  refine j_aload_n hX 2 dL_law_256 rfl rfl ?_
  refine j_aloadX hX 0 dL_law_257 rfl rfl ?_
  refine j_iload_n hX 3 dL_law_258 rfl rfl ?_
  refine j_iconst hX dL_law_259 (rc rfl) ?_
  refine j_iadd hX dL_law_260 ?_
  obtain ⟨x15, hv, h⟩ := bs h
  refine j_sld hX hSX hv dL_law_261 ?_
  refine j_aloadX hX 0 dL_law_262 rfl rfl ?_
  refine j_iload_n hX 3 dL_law_263 rfl rfl ?_
  refine j_iconst hX dL_law_264 (rc rfl) ?_
  refine j_iadd hX dL_law_265 ?_
  obtain ⟨x16, hv, h⟩ := bs h
  refine j_sld hX hSX hv dL_law_266 ?_
  refine j_aloadX hX 0 dL_law_267 rfl rfl ?_
  refine j_iload_n hX 3 dL_law_268 rfl rfl ?_
  refine j_iconst hX dL_law_269 (rc rfl) ?_
  refine j_iadd hX dL_law_270 ?_
  obtain ⟨x17, hv, h⟩ := bs h
  refine j_sld hX hSX hv dL_law_271 ?_
  obtain ⟨r18, S19, h1, h⟩ := bd2_s h
  refine j_callVI hX mwX10_words miX10_words wd1333 cbX10 ty56 hyX10_words (by decide) (by decide) hcs dL_law_272 (s_X10_words (E := (fun z => cmb S14 z)) (S := Sm) hfl (lensM S14) h1) npX10_words rfl (Nat.le_of_ble_eq_true rfl) ?_
  refine j_icmp_eq hX (tgt := 1425) dL_law_275 (by decide) (fun hc => ?_) (fun hc => ?_)
  · rw [if_pos hc] at h
    refine j_iinc (L' := [(3, vI (w32 (v3 + 6))), (0, vX (.ref b)), (1, vR 0), (2, vR 56)]) hX 3 dL_law_1425 hnl (by decide) rfl rfl ?_
    refine j_goto hX (tgt := 18) dL_law_1428 (by decide) ?_
    refine j_sub [1, 2, 3, 0] rfl ?_
    exact ih _ _ _ h
  · rw [if_neg hc] at h
    refine j_iconst hX dL_law_278 (rc rfl) ?_
    cases h
theorem sl_law_c2 {X : K0} {B : Nat → Nat} {n k2 k3 b L : Nat} {xs : Nat → Int} {Q : State → Prop} (hX : Ctx X code "TelegramFeelingsLaw" 1400) (hfl : (gX X).2.2.2.2 = true) (hnl : X.2.2.2.2.2.2.2.2.2.2.2.2.2.2 = 4) (hcs : k2 ≤ X.2.2.2.1.cells ∧ k3 ≤ X.2.2.2.1.slots) (hR1 : ∀ (pc : Nat) (L : List (Nat × AV)) (M : Mem), decode code pc = .ok (.ireturn, 1) → JW X B n k2 k3 pc L [vI 1] M Q) (hSX : SX X b L xs) {rec : Int → Mem → Mem → Option Unit} (ih : ∀ (v3 : Int) (Sc Sm : Mem), rec v3 Sc Sm = some () → JW X B n k2 k3 18 [(0, vX (.ref b)), (1, vR 0), (2, vR 56), (3, vI (v3))] [] (cmb Sc Sm) Q) {v3 : Int} {Sc Sm : Mem} (h : g_law_c2 L xs rec v3 Sc Sm = some ()) : JW X B n k2 k3 280 [(0, vX (.ref b)), (1, vR 0), (2, vR 56), (3, vI (v3))] [] (cmb Sc Sm) Q := by
  unfold g_law_c2 at h
  refine j_aload_n hX 1 dL_law_280 rfl rfl ?_
  refine j_aloadX hX 0 dL_law_281 rfl rfl ?_
  refine j_iload_n hX 3 dL_law_282 rfl rfl ?_
  refine j_iconst hX dL_law_283 (rc rfl) ?_
  refine j_iadd hX dL_law_284 ?_
  obtain ⟨x20, hv, h⟩ := bs h
  refine j_sld hX hSX hv dL_law_285 ?_
  obtain ⟨r21, S22, h1, h⟩ := bd2_s h
  refine j_callVI hX mwX9_person miX9_person wd484 cbX9 ty0 hyX9_person (by decide) (by decide) hcs dL_law_286 (s_X9_person (E := (fun z => cmb z Sm)) (S := Sc) hfl (lensC Sm) h1) npX9_person rfl (Nat.le_of_ble_eq_true rfl) ?_
  refine j_aload_n hX 2 dL_law_289 rfl rfl ?_
  refine j_aloadX hX 0 dL_law_290 rfl rfl ?_
  refine j_iload_n hX 3 dL_law_291 rfl rfl ?_
  refine j_iconst hX dL_law_292 (rc rfl) ?_
  refine j_iadd hX dL_law_293 ?_
  obtain ⟨x23, hv, h⟩ := bs h
  refine j_sld hX hSX hv dL_law_294 ?_
  obtain ⟨r24, S25, h1, h⟩ := bd2_s h
  refine j_callVI hX mwX10_person miX10_person wd1341 cbX10 ty56 hyX10_person (by decide) (by decide) hcs dL_law_295 (s_X10_person (E := (fun z => cmb S22 z)) (S := Sm) hfl (lensM S22) h1) npX10_person rfl (Nat.le_of_ble_eq_true rfl) ?_
  refine j_icmp_eq hX (tgt := 1425) dL_law_298 (by decide) (fun hc => ?_) (fun hc => ?_)
  · rw [if_pos hc] at h
    refine j_iinc (L' := [(3, vI (w32 (v3 + 6))), (0, vX (.ref b)), (1, vR 0), (2, vR 56)]) hX 3 dL_law_1425 hnl (by decide) rfl rfl ?_
    refine j_goto hX (tgt := 18) dL_law_1428 (by decide) ?_
    refine j_sub [1, 2, 3, 0] rfl ?_
    exact ih _ _ _ h
  · rw [if_neg hc] at h
    refine j_iconst hX dL_law_301 (rc rfl) ?_
    cases h
theorem sl_law_c3 {X : K0} {B : Nat → Nat} {n k2 k3 b L : Nat} {xs : Nat → Int} {Q : State → Prop} (hX : Ctx X code "TelegramFeelingsLaw" 1400) (hfl : (gX X).2.2.2.2 = true) (hnl : X.2.2.2.2.2.2.2.2.2.2.2.2.2.2 = 4) (hcs : k2 ≤ X.2.2.2.1.cells ∧ k3 ≤ X.2.2.2.1.slots) (hR1 : ∀ (pc : Nat) (L : List (Nat × AV)) (M : Mem), decode code pc = .ok (.ireturn, 1) → JW X B n k2 k3 pc L [vI 1] M Q) (hSX : SX X b L xs) {rec : Int → Mem → Mem → Option Unit} (ih : ∀ (v3 : Int) (Sc Sm : Mem), rec v3 Sc Sm = some () → JW X B n k2 k3 18 [(0, vX (.ref b)), (1, vR 0), (2, vR 56), (3, vI (v3))] [] (cmb Sc Sm) Q) {v3 : Int} {Sc Sm : Mem} (h : g_law_c3 L xs rec v3 Sc Sm = some ()) : JW X B n k2 k3 303 [(0, vX (.ref b)), (1, vR 0), (2, vR 56), (3, vI (v3))] [] (cmb Sc Sm) Q := by
  unfold g_law_c3 at h
  refine j_aload_n hX 1 dL_law_303 rfl rfl ?_
  refine j_aloadX hX 0 dL_law_304 rfl rfl ?_
  refine j_iload_n hX 3 dL_law_305 rfl rfl ?_
  refine j_iconst hX dL_law_306 (rc rfl) ?_
  refine j_iadd hX dL_law_307 ?_
  obtain ⟨x26, hv, h⟩ := bs h
  refine j_sld hX hSX hv dL_law_308 ?_
  refine j_aloadX hX 0 dL_law_309 rfl rfl ?_
  refine j_iload_n hX 3 dL_law_310 rfl rfl ?_
  refine j_iconst hX dL_law_311 (rc rfl) ?_
  refine j_iadd hX dL_law_312 ?_
  obtain ⟨x27, hv, h⟩ := bs h
  refine j_sld hX hSX hv dL_law_313 ?_
  refine j_aloadX hX 0 dL_law_314 rfl rfl ?_
  refine j_iload_n hX 3 dL_law_315 rfl rfl ?_
  refine j_iconst hX dL_law_316 (rc rfl) ?_
  refine j_iadd hX dL_law_317 ?_
  obtain ⟨x28, hv, h⟩ := bs h
  refine j_sld hX hSX hv dL_law_318 ?_
  obtain ⟨r29, S30, h1, h⟩ := bd2_s h
  refine j_callVI hX mwX9_mend miX9_mend wd492 cbX9 ty0 hyX9_mend (by decide) (by decide) hcs dL_law_319 (s_X9_mend (E := (fun z => cmb z Sm)) (S := Sc) hfl (lensC Sm) h1) npX9_mend rfl (Nat.le_of_ble_eq_true rfl) ?_
  refine j_aload_n hX 2 dL_law_322 rfl rfl ?_
  refine j_aloadX hX 0 dL_law_323 rfl rfl ?_
  refine j_iload_n hX 3 dL_law_324 rfl rfl ?_
  refine j_iconst hX dL_law_325 (rc rfl) ?_
  refine j_iadd hX dL_law_326 ?_
  obtain ⟨x31, hv, h⟩ := bs h
  refine j_sld hX hSX hv dL_law_327 ?_
  refine j_aloadX hX 0 dL_law_328 rfl rfl ?_
  refine j_iload_n hX 3 dL_law_329 rfl rfl ?_
  refine j_iconst hX dL_law_330 (rc rfl) ?_
  refine j_iadd hX dL_law_331 ?_
  obtain ⟨x32, hv, h⟩ := bs h
  refine j_sld hX hSX hv dL_law_332 ?_
  refine j_aloadX hX 0 dL_law_333 rfl rfl ?_
  refine j_iload_n hX 3 dL_law_334 rfl rfl ?_
  refine j_iconst hX dL_law_335 (rc rfl) ?_
  refine j_iadd hX dL_law_336 ?_
  obtain ⟨x33, hv, h⟩ := bs h
  refine j_sld hX hSX hv dL_law_337 ?_
  obtain ⟨r34, S35, h1, h⟩ := bd2_s h
  refine j_callVI hX mwX10_mend miX10_mend wd1357 cbX10 ty56 hyX10_mend (by decide) (by decide) hcs dL_law_338 (s_X10_mend (E := (fun z => cmb S30 z)) (S := Sm) hfl (lensM S30) h1) npX10_mend rfl (Nat.le_of_ble_eq_true rfl) ?_
  refine j_icmp_eq hX (tgt := 1425) dL_law_341 (by decide) (fun hc => ?_) (fun hc => ?_)
  · rw [if_pos hc] at h
    refine j_iinc (L' := [(3, vI (w32 (v3 + 6))), (0, vX (.ref b)), (1, vR 0), (2, vR 56)]) hX 3 dL_law_1425 hnl (by decide) rfl rfl ?_
    refine j_goto hX (tgt := 18) dL_law_1428 (by decide) ?_
    refine j_sub [1, 2, 3, 0] rfl ?_
    exact ih _ _ _ h
  · rw [if_neg hc] at h
    refine j_iconst hX dL_law_344 (rc rfl) ?_
    cases h
theorem sl_law_c4 {X : K0} {B : Nat → Nat} {n k2 k3 b L : Nat} {xs : Nat → Int} {Q : State → Prop} (hX : Ctx X code "TelegramFeelingsLaw" 1400) (hfl : (gX X).2.2.2.2 = true) (hnl : X.2.2.2.2.2.2.2.2.2.2.2.2.2.2 = 4) (hcs : k2 ≤ X.2.2.2.1.cells ∧ k3 ≤ X.2.2.2.1.slots) (hR1 : ∀ (pc : Nat) (L : List (Nat × AV)) (M : Mem), decode code pc = .ok (.ireturn, 1) → JW X B n k2 k3 pc L [vI 1] M Q) (hSX : SX X b L xs) {rec : Int → Mem → Mem → Option Unit} (ih : ∀ (v3 : Int) (Sc Sm : Mem), rec v3 Sc Sm = some () → JW X B n k2 k3 18 [(0, vX (.ref b)), (1, vR 0), (2, vR 56), (3, vI (v3))] [] (cmb Sc Sm) Q) {v3 : Int} {Sc Sm : Mem} (h : g_law_c4 L xs rec v3 Sc Sm = some ()) : JW X B n k2 k3 346 [(0, vX (.ref b)), (1, vR 0), (2, vR 56), (3, vI (v3))] [] (cmb Sc Sm) Q := by
  unfold g_law_c4 at h
  refine j_aload_n hX 1 dL_law_346 rfl rfl ?_
  refine j_aloadX hX 0 dL_law_347 rfl rfl ?_
  refine j_iload_n hX 3 dL_law_348 rfl rfl ?_
  refine j_iconst hX dL_law_349 (rc rfl) ?_
  refine j_iadd hX dL_law_350 ?_
  obtain ⟨x36, hv, h⟩ := bs h
  refine j_sld hX hSX hv dL_law_351 ?_
  refine j_aloadX hX 0 dL_law_352 rfl rfl ?_
  refine j_iload_n hX 3 dL_law_353 rfl rfl ?_
  refine j_iconst hX dL_law_354 (rc rfl) ?_
  refine j_iadd hX dL_law_355 ?_
  obtain ⟨x37, hv, h⟩ := bs h
  refine j_sld hX hSX hv dL_law_356 ?_
  obtain ⟨r38, h1, h⟩ := bs h
  refine j_callVI hX mwX9_of miX9_of wd513 cbX9 ty0 hyX9_of (by decide) (by decide) hcs dL_law_357 (s_X9_of (E := (fun z => cmb z Sm)) (S := Sc) hfl (lensC Sm) h1) npX9_of rfl (Nat.le_of_ble_eq_true rfl) ?_
  refine j_aload_n hX 2 dL_law_360 rfl rfl ?_
  refine j_aloadX hX 0 dL_law_361 rfl rfl ?_
  refine j_iload_n hX 3 dL_law_362 rfl rfl ?_
  refine j_iconst hX dL_law_363 (rc rfl) ?_
  refine j_iadd hX dL_law_364 ?_
  obtain ⟨x39, hv, h⟩ := bs h
  refine j_sld hX hSX hv dL_law_365 ?_
  refine j_aloadX hX 0 dL_law_366 rfl rfl ?_
  refine j_iload_n hX 3 dL_law_367 rfl rfl ?_
  refine j_iconst hX dL_law_368 (rc rfl) ?_
  refine j_iadd hX dL_law_369 ?_
  obtain ⟨x40, hv, h⟩ := bs h
  refine j_sld hX hSX hv dL_law_370 ?_
  obtain ⟨r41, h1, h⟩ := bs h
  refine j_callVI hX mwX10_of miX10_of wd1385 cbX10 ty56 hyX10_of (by decide) (by decide) hcs dL_law_371 (s_X10_of (E := (fun z => cmb Sc z)) (S := Sm) hfl (lensM Sc) h1) npX10_of rfl (Nat.le_of_ble_eq_true rfl) ?_
  refine j_icmp_eq hX (tgt := 1425) dL_law_374 (by decide) (fun hc => ?_) (fun hc => ?_)
  · rw [if_pos hc] at h
    refine j_iinc (L' := [(3, vI (w32 (v3 + 6))), (0, vX (.ref b)), (1, vR 0), (2, vR 56)]) hX 3 dL_law_1425 hnl (by decide) rfl rfl ?_
    refine j_goto hX (tgt := 18) dL_law_1428 (by decide) ?_
    refine j_sub [1, 2, 3, 0] rfl ?_
    exact ih _ _ _ h
  · rw [if_neg hc] at h
    refine j_iconst hX dL_law_377 (rc rfl) ?_
    cases h
theorem sl_law_c5 {X : K0} {B : Nat → Nat} {n k2 k3 b L : Nat} {xs : Nat → Int} {Q : State → Prop} (hX : Ctx X code "TelegramFeelingsLaw" 1400) (hfl : (gX X).2.2.2.2 = true) (hnl : X.2.2.2.2.2.2.2.2.2.2.2.2.2.2 = 4) (hcs : k2 ≤ X.2.2.2.1.cells ∧ k3 ≤ X.2.2.2.1.slots) (hR1 : ∀ (pc : Nat) (L : List (Nat × AV)) (M : Mem), decode code pc = .ok (.ireturn, 1) → JW X B n k2 k3 pc L [vI 1] M Q) (hSX : SX X b L xs) {rec : Int → Mem → Mem → Option Unit} (ih : ∀ (v3 : Int) (Sc Sm : Mem), rec v3 Sc Sm = some () → JW X B n k2 k3 18 [(0, vX (.ref b)), (1, vR 0), (2, vR 56), (3, vI (v3))] [] (cmb Sc Sm) Q) {v3 : Int} {Sc Sm : Mem} (h : g_law_c5 L xs rec v3 Sc Sm = some ()) : JW X B n k2 k3 379 [(0, vX (.ref b)), (1, vR 0), (2, vR 56), (3, vI (v3))] [] (cmb Sc Sm) Q := by
  unfold g_law_c5 at h
  refine j_aload_n hX 1 dL_law_379 rfl rfl ?_
  refine j_aloadX hX 0 dL_law_380 rfl rfl ?_
  refine j_iload_n hX 3 dL_law_381 rfl rfl ?_
  refine j_iconst hX dL_law_382 (rc rfl) ?_
  refine j_iadd hX dL_law_383 ?_
  obtain ⟨x42, hv, h⟩ := bs h
  refine j_sld hX hSX hv dL_law_384 ?_
  obtain ⟨r43, S44, h1, h⟩ := bd2_s h
  refine j_callVI hX mwX9_feed miX9_feed wd517 cbX9 ty0 hyX9_feed (by decide) (by decide) hcs dL_law_385 (s_X9_feed (E := (fun z => cmb z Sm)) (S := Sc) hfl (lensC Sm) h1) npX9_feed rfl (Nat.le_of_ble_eq_true rfl) ?_
  refine j_aload_n hX 2 dL_law_388 rfl rfl ?_
  refine j_aloadX hX 0 dL_law_389 rfl rfl ?_
  refine j_iload_n hX 3 dL_law_390 rfl rfl ?_
  refine j_iconst hX dL_law_391 (rc rfl) ?_
  refine j_iadd hX dL_law_392 ?_
  obtain ⟨x45, hv, h⟩ := bs h
  refine j_sld hX hSX hv dL_law_393 ?_
  obtain ⟨r46, S47, h1, h⟩ := bd2_s h
  refine j_callVI hX mwX10_feed miX10_feed wd1389 cbX10 ty56 hyX10_feed (by decide) (by decide) hcs dL_law_394 (s_X10_feed (E := (fun z => cmb S44 z)) (S := Sm) hfl (lensM S44) h1) npX10_feed rfl (Nat.le_of_ble_eq_true rfl) ?_
  refine j_icmp_eq hX (tgt := 1425) dL_law_397 (by decide) (fun hc => ?_) (fun hc => ?_)
  · rw [if_pos hc] at h
    refine j_iinc (L' := [(3, vI (w32 (v3 + 6))), (0, vX (.ref b)), (1, vR 0), (2, vR 56)]) hX 3 dL_law_1425 hnl (by decide) rfl rfl ?_
    refine j_goto hX (tgt := 18) dL_law_1428 (by decide) ?_
    refine j_sub [1, 2, 3, 0] rfl ?_
    exact ih _ _ _ h
  · rw [if_neg hc] at h
    refine j_iconst hX dL_law_400 (rc rfl) ?_
    cases h
theorem sl_law_c6 {X : K0} {B : Nat → Nat} {n k2 k3 b L : Nat} {xs : Nat → Int} {Q : State → Prop} (hX : Ctx X code "TelegramFeelingsLaw" 1400) (hfl : (gX X).2.2.2.2 = true) (hnl : X.2.2.2.2.2.2.2.2.2.2.2.2.2.2 = 4) (hcs : k2 ≤ X.2.2.2.1.cells ∧ k3 ≤ X.2.2.2.1.slots) (hR1 : ∀ (pc : Nat) (L : List (Nat × AV)) (M : Mem), decode code pc = .ok (.ireturn, 1) → JW X B n k2 k3 pc L [vI 1] M Q) (hSX : SX X b L xs) {rec : Int → Mem → Mem → Option Unit} (ih : ∀ (v3 : Int) (Sc Sm : Mem), rec v3 Sc Sm = some () → JW X B n k2 k3 18 [(0, vX (.ref b)), (1, vR 0), (2, vR 56), (3, vI (v3))] [] (cmb Sc Sm) Q) {v3 : Int} {Sc Sm : Mem} (h : g_law_c6 L xs rec v3 Sc Sm = some ()) : JW X B n k2 k3 402 [(0, vX (.ref b)), (1, vR 0), (2, vR 56), (3, vI (v3))] [] (cmb Sc Sm) Q := by
  unfold g_law_c6 at h
  refine j_aload_n hX 1 dL_law_402 rfl rfl ?_
  obtain ⟨r48, S49, h1, h⟩ := bd2_s h
  refine j_callVI hX mwX9_law miX9_law wd525 cbX9 ty0 hyX9_law (by decide) (by decide) hcs dL_law_403 (s_X9_law (E := (fun z => cmb z Sm)) (S := Sc) hfl (lensC Sm) h1) npX9_law rfl (Nat.le_of_ble_eq_true rfl) ?_
  refine j_aload_n hX 2 dL_law_406 rfl rfl ?_
  obtain ⟨r50, S51, h1, h⟩ := bd2_s h
  refine j_callVI hX mwX10_law miX10_law wd1393 cbX10 ty56 hyX10_law (by decide) (by decide) hcs dL_law_407 (s_X10_law (E := (fun z => cmb S49 z)) (S := Sm) hfl (lensM S49) h1) npX10_law rfl (Nat.le_of_ble_eq_true rfl) ?_
  refine j_icmp_eq hX (tgt := 1425) dL_law_410 (by decide) (fun hc => ?_) (fun hc => ?_)
  · rw [if_pos hc] at h
    refine j_iinc (L' := [(3, vI (w32 (v3 + 6))), (0, vX (.ref b)), (1, vR 0), (2, vR 56)]) hX 3 dL_law_1425 hnl (by decide) rfl rfl ?_
    refine j_goto hX (tgt := 18) dL_law_1428 (by decide) ?_
    refine j_sub [1, 2, 3, 0] rfl ?_
    exact ih _ _ _ h
  · rw [if_neg hc] at h
    refine j_iconst hX dL_law_413 (rc rfl) ?_
    cases h
theorem sl_law_c7 {X : K0} {B : Nat → Nat} {n k2 k3 b L : Nat} {xs : Nat → Int} {Q : State → Prop} (hX : Ctx X code "TelegramFeelingsLaw" 1400) (hfl : (gX X).2.2.2.2 = true) (hnl : X.2.2.2.2.2.2.2.2.2.2.2.2.2.2 = 4) (hcs : k2 ≤ X.2.2.2.1.cells ∧ k3 ≤ X.2.2.2.1.slots) (hR1 : ∀ (pc : Nat) (L : List (Nat × AV)) (M : Mem), decode code pc = .ok (.ireturn, 1) → JW X B n k2 k3 pc L [vI 1] M Q) (hSX : SX X b L xs) {rec : Int → Mem → Mem → Option Unit} (ih : ∀ (v3 : Int) (Sc Sm : Mem), rec v3 Sc Sm = some () → JW X B n k2 k3 18 [(0, vX (.ref b)), (1, vR 0), (2, vR 56), (3, vI (v3))] [] (cmb Sc Sm) Q) {v3 : Int} {Sc Sm : Mem} (h : g_law_c7 L xs rec v3 Sc Sm = some ()) : JW X B n k2 k3 415 [(0, vX (.ref b)), (1, vR 0), (2, vR 56), (3, vI (v3))] [] (cmb Sc Sm) Q := by
  unfold g_law_c7 at h
  refine j_aload_n hX 1 dL_law_415 rfl rfl ?_
  refine j_aloadX hX 0 dL_law_416 rfl rfl ?_
  refine j_iload_n hX 3 dL_law_417 rfl rfl ?_
  refine j_iconst hX dL_law_418 (rc rfl) ?_
  refine j_iadd hX dL_law_419 ?_
  obtain ⟨x52, hv, h⟩ := bs h
  refine j_sld hX hSX hv dL_law_420 ?_
  refine j_aloadX hX 0 dL_law_421 rfl rfl ?_
  refine j_iload_n hX 3 dL_law_422 rfl rfl ?_
  refine j_iconst hX dL_law_423 (rc rfl) ?_
  refine j_iadd hX dL_law_424 ?_
  obtain ⟨x53, hv, h⟩ := bs h
  refine j_sld hX hSX hv dL_law_425 ?_
  obtain ⟨r54, S55, h1, h⟩ := bd2_s h
  refine j_callVI hX mwX9_price miX9_price wd661 cbX9 ty0 hyX9_price (by decide) (by decide) hcs dL_law_426 (s_X9_price (E := (fun z => cmb z Sm)) (S := Sc) hfl (lensC Sm) h1) npX9_price rfl (Nat.le_of_ble_eq_true rfl) ?_
  refine j_aload_n hX 2 dL_law_429 rfl rfl ?_
  refine j_aloadX hX 0 dL_law_430 rfl rfl ?_
  refine j_iload_n hX 3 dL_law_431 rfl rfl ?_
  refine j_iconst hX dL_law_432 (rc rfl) ?_
  refine j_iadd hX dL_law_433 ?_
  obtain ⟨x56, hv, h⟩ := bs h
  refine j_sld hX hSX hv dL_law_434 ?_
  refine j_aloadX hX 0 dL_law_435 rfl rfl ?_
  refine j_iload_n hX 3 dL_law_436 rfl rfl ?_
  refine j_iconst hX dL_law_437 (rc rfl) ?_
  refine j_iadd hX dL_law_438 ?_
  obtain ⟨x57, hv, h⟩ := bs h
  refine j_sld hX hSX hv dL_law_439 ?_
  obtain ⟨r58, S59, h1, h⟩ := bd2_s h
  refine j_callVI hX mwX10_price miX10_price wd1452 cbX10 ty56 hyX10_price (by decide) (by decide) hcs dL_law_440 (s_X10_price (E := (fun z => cmb S55 z)) (S := Sm) hfl (lensM S55) h1) npX10_price rfl (Nat.le_of_ble_eq_true rfl) ?_
  refine j_icmp_eq hX (tgt := 1425) dL_law_443 (by decide) (fun hc => ?_) (fun hc => ?_)
  · rw [if_pos hc] at h
    refine j_iinc (L' := [(3, vI (w32 (v3 + 6))), (0, vX (.ref b)), (1, vR 0), (2, vR 56)]) hX 3 dL_law_1425 hnl (by decide) rfl rfl ?_
    refine j_goto hX (tgt := 18) dL_law_1428 (by decide) ?_
    refine j_sub [1, 2, 3, 0] rfl ?_
    exact ih _ _ _ h
  · rw [if_neg hc] at h
    refine j_iconst hX dL_law_446 (rc rfl) ?_
    cases h
theorem sl_law_c8 {X : K0} {B : Nat → Nat} {n k2 k3 b L : Nat} {xs : Nat → Int} {Q : State → Prop} (hX : Ctx X code "TelegramFeelingsLaw" 1400) (hfl : (gX X).2.2.2.2 = true) (hnl : X.2.2.2.2.2.2.2.2.2.2.2.2.2.2 = 4) (hcs : k2 ≤ X.2.2.2.1.cells ∧ k3 ≤ X.2.2.2.1.slots) (hR1 : ∀ (pc : Nat) (L : List (Nat × AV)) (M : Mem), decode code pc = .ok (.ireturn, 1) → JW X B n k2 k3 pc L [vI 1] M Q) (hSX : SX X b L xs) {rec : Int → Mem → Mem → Option Unit} (ih : ∀ (v3 : Int) (Sc Sm : Mem), rec v3 Sc Sm = some () → JW X B n k2 k3 18 [(0, vX (.ref b)), (1, vR 0), (2, vR 56), (3, vI (v3))] [] (cmb Sc Sm) Q) {v3 : Int} {Sc Sm : Mem} (h : g_law_c8 L xs rec v3 Sc Sm = some ()) : JW X B n k2 k3 448 [(0, vX (.ref b)), (1, vR 0), (2, vR 56), (3, vI (v3))] [] (cmb Sc Sm) Q := by
  unfold g_law_c8 at h
  refine j_aload_n hX 1 dL_law_448 rfl rfl ?_
  refine j_aloadX hX 0 dL_law_449 rfl rfl ?_
  refine j_iload_n hX 3 dL_law_450 rfl rfl ?_
  refine j_iconst hX dL_law_451 (rc rfl) ?_
  refine j_iadd hX dL_law_452 ?_
  obtain ⟨x60, hv, h⟩ := bs h
  refine j_sld hX hSX hv dL_law_453 ?_
  refine j_aloadX hX 0 dL_law_454 rfl rfl ?_
  refine j_iload_n hX 3 dL_law_455 rfl rfl ?_
  refine j_iconst hX dL_law_456 (rc rfl) ?_
  refine j_iadd hX dL_law_457 ?_
  obtain ⟨x61, hv, h⟩ := bs h
  refine j_sld hX hSX hv dL_law_458 ?_
  obtain ⟨r62, S63, h1, h⟩ := bd2_s h
  refine j_callVI hX mwX9_wire miX9_wire wd687 cbX9 ty0 hyX9_wire (by decide) (by decide) hcs dL_law_459 (s_X9_wire (E := (fun z => cmb z Sm)) (S := Sc) hfl (lensC Sm) h1) npX9_wire rfl (Nat.le_of_ble_eq_true rfl) ?_
  refine j_aload_n hX 2 dL_law_462 rfl rfl ?_
  refine j_aloadX hX 0 dL_law_463 rfl rfl ?_
  refine j_iload_n hX 3 dL_law_464 rfl rfl ?_
  refine j_iconst hX dL_law_465 (rc rfl) ?_
  refine j_iadd hX dL_law_466 ?_
  obtain ⟨x64, hv, h⟩ := bs h
  refine j_sld hX hSX hv dL_law_467 ?_
  refine j_aloadX hX 0 dL_law_468 rfl rfl ?_
  refine j_iload_n hX 3 dL_law_469 rfl rfl ?_
  refine j_iconst hX dL_law_470 (rc rfl) ?_
  refine j_iadd hX dL_law_471 ?_
  obtain ⟨x65, hv, h⟩ := bs h
  refine j_sld hX hSX hv dL_law_472 ?_
  obtain ⟨r66, S67, h1, h⟩ := bd2_s h
  refine j_callVI hX mwX10_wire miX10_wire wd1471 cbX10 ty56 hyX10_wire (by decide) (by decide) hcs dL_law_473 (s_X10_wire (E := (fun z => cmb S63 z)) (S := Sm) hfl (lensM S63) h1) npX10_wire rfl (Nat.le_of_ble_eq_true rfl) ?_
  refine j_icmp_eq hX (tgt := 1425) dL_law_476 (by decide) (fun hc => ?_) (fun hc => ?_)
  · rw [if_pos hc] at h
    refine j_iinc (L' := [(3, vI (w32 (v3 + 6))), (0, vX (.ref b)), (1, vR 0), (2, vR 56)]) hX 3 dL_law_1425 hnl (by decide) rfl rfl ?_
    refine j_goto hX (tgt := 18) dL_law_1428 (by decide) ?_
    refine j_sub [1, 2, 3, 0] rfl ?_
    exact ih _ _ _ h
  · rw [if_neg hc] at h
    refine j_iconst hX dL_law_479 (rc rfl) ?_
    cases h
theorem sl_law_c9 {X : K0} {B : Nat → Nat} {n k2 k3 b L : Nat} {xs : Nat → Int} {Q : State → Prop} (hX : Ctx X code "TelegramFeelingsLaw" 1400) (hfl : (gX X).2.2.2.2 = true) (hnl : X.2.2.2.2.2.2.2.2.2.2.2.2.2.2 = 4) (hcs : k2 ≤ X.2.2.2.1.cells ∧ k3 ≤ X.2.2.2.1.slots) (hR1 : ∀ (pc : Nat) (L : List (Nat × AV)) (M : Mem), decode code pc = .ok (.ireturn, 1) → JW X B n k2 k3 pc L [vI 1] M Q) (hSX : SX X b L xs) {rec : Int → Mem → Mem → Option Unit} (ih : ∀ (v3 : Int) (Sc Sm : Mem), rec v3 Sc Sm = some () → JW X B n k2 k3 18 [(0, vX (.ref b)), (1, vR 0), (2, vR 56), (3, vI (v3))] [] (cmb Sc Sm) Q) {v3 : Int} {Sc Sm : Mem} (h : g_law_c9 L xs rec v3 Sc Sm = some ()) : JW X B n k2 k3 481 [(0, vX (.ref b)), (1, vR 0), (2, vR 56), (3, vI (v3))] [] (cmb Sc Sm) Q := by
  unfold g_law_c9 at h
  refine j_aload_n hX 1 dL_law_481 rfl rfl ?_
  refine j_aloadX hX 0 dL_law_482 rfl rfl ?_
  refine j_iload_n hX 3 dL_law_483 rfl rfl ?_
  refine j_iconst hX dL_law_484 (rc rfl) ?_
  refine j_iadd hX dL_law_485 ?_
  obtain ⟨x68, hv, h⟩ := bs h
  refine j_sld hX hSX hv dL_law_486 ?_
  refine j_aloadX hX 0 dL_law_487 rfl rfl ?_
  refine j_iload_n hX 3 dL_law_488 rfl rfl ?_
  refine j_iconst hX dL_law_489 (rc rfl) ?_
  refine j_iadd hX dL_law_490 ?_
  obtain ⟨x69, hv, h⟩ := bs h
  refine j_sld hX hSX hv dL_law_491 ?_
  obtain ⟨r70, S71, h1, h⟩ := bd2_s h
  refine j_callVI hX mwX9_say miX9_say wd742 cbX9 ty0 hyX9_say (by decide) (by decide) hcs dL_law_492 (s_X9_say (E := (fun z => cmb z Sm)) (S := Sc) hfl (lensC Sm) h1) npX9_say rfl (Nat.le_of_ble_eq_true rfl) ?_
  refine j_aload_n hX 2 dL_law_495 rfl rfl ?_
  refine j_aloadX hX 0 dL_law_496 rfl rfl ?_
  refine j_iload_n hX 3 dL_law_497 rfl rfl ?_
  refine j_iconst hX dL_law_498 (rc rfl) ?_
  refine j_iadd hX dL_law_499 ?_
  obtain ⟨x72, hv, h⟩ := bs h
  refine j_sld hX hSX hv dL_law_500 ?_
  refine j_aloadX hX 0 dL_law_501 rfl rfl ?_
  refine j_iload_n hX 3 dL_law_502 rfl rfl ?_
  refine j_iconst hX dL_law_503 (rc rfl) ?_
  refine j_iadd hX dL_law_504 ?_
  obtain ⟨x73, hv, h⟩ := bs h
  refine j_sld hX hSX hv dL_law_505 ?_
  obtain ⟨r74, S75, h1, h⟩ := bd2_s h
  refine j_callVI hX mwX10_say miX10_say wd1515 cbX10 ty56 hyX10_say (by decide) (by decide) hcs dL_law_506 (s_X10_say (E := (fun z => cmb S71 z)) (S := Sm) hfl (lensM S71) h1) npX10_say rfl (Nat.le_of_ble_eq_true rfl) ?_
  refine j_icmp_eq hX (tgt := 1425) dL_law_509 (by decide) (fun hc => ?_) (fun hc => ?_)
  · rw [if_pos hc] at h
    refine j_iinc (L' := [(3, vI (w32 (v3 + 6))), (0, vX (.ref b)), (1, vR 0), (2, vR 56)]) hX 3 dL_law_1425 hnl (by decide) rfl rfl ?_
    refine j_goto hX (tgt := 18) dL_law_1428 (by decide) ?_
    refine j_sub [1, 2, 3, 0] rfl ?_
    exact ih _ _ _ h
  · rw [if_neg hc] at h
    refine j_iconst hX dL_law_512 (rc rfl) ?_
    cases h
theorem sl_law_c10 {X : K0} {B : Nat → Nat} {n k2 k3 b L : Nat} {xs : Nat → Int} {Q : State → Prop} (hX : Ctx X code "TelegramFeelingsLaw" 1400) (hfl : (gX X).2.2.2.2 = true) (hnl : X.2.2.2.2.2.2.2.2.2.2.2.2.2.2 = 4) (hcs : k2 ≤ X.2.2.2.1.cells ∧ k3 ≤ X.2.2.2.1.slots) (hR1 : ∀ (pc : Nat) (L : List (Nat × AV)) (M : Mem), decode code pc = .ok (.ireturn, 1) → JW X B n k2 k3 pc L [vI 1] M Q) (hSX : SX X b L xs) {rec : Int → Mem → Mem → Option Unit} (ih : ∀ (v3 : Int) (Sc Sm : Mem), rec v3 Sc Sm = some () → JW X B n k2 k3 18 [(0, vX (.ref b)), (1, vR 0), (2, vR 56), (3, vI (v3))] [] (cmb Sc Sm) Q) {v3 : Int} {Sc Sm : Mem} (h : g_law_c10 L xs rec v3 Sc Sm = some ()) : JW X B n k2 k3 514 [(0, vX (.ref b)), (1, vR 0), (2, vR 56), (3, vI (v3))] [] (cmb Sc Sm) Q := by
  unfold g_law_c10 at h
  refine j_aload_n hX 1 dL_law_514 rfl rfl ?_
  refine j_aloadX hX 0 dL_law_515 rfl rfl ?_
  refine j_iload_n hX 3 dL_law_516 rfl rfl ?_
  refine j_iconst hX dL_law_517 (rc rfl) ?_
  refine j_iadd hX dL_law_518 ?_
  obtain ⟨x76, hv, h⟩ := bs h
  refine j_sld hX hSX hv dL_law_519 ?_
  refine j_aloadX hX 0 dL_law_520 rfl rfl ?_
  refine j_iload_n hX 3 dL_law_521 rfl rfl ?_
  refine j_iconst hX dL_law_522 (rc rfl) ?_
  refine j_iadd hX dL_law_523 ?_
  obtain ⟨x77, hv, h⟩ := bs h
  refine j_sld hX hSX hv dL_law_524 ?_
  obtain ⟨r78, S79, h1, h⟩ := bd2_s h
  refine j_callVI hX mwX9_allFor miX9_allFor wd788 cbX9 ty0 hyX9_allFor (by decide) (by decide) hcs dL_law_525 (s_X9_allFor (E := (fun z => cmb z Sm)) (S := Sc) hfl (lensC Sm) h1) npX9_allFor rfl (Nat.le_of_ble_eq_true rfl) ?_
  refine j_aload_n hX 2 dL_law_528 rfl rfl ?_
  refine j_aloadX hX 0 dL_law_529 rfl rfl ?_
  refine j_iload_n hX 3 dL_law_530 rfl rfl ?_
  refine j_iconst hX dL_law_531 (rc rfl) ?_
  refine j_iadd hX dL_law_532 ?_
  obtain ⟨x80, hv, h⟩ := bs h
  refine j_sld hX hSX hv dL_law_533 ?_
  refine j_aloadX hX 0 dL_law_534 rfl rfl ?_
  refine j_iload_n hX 3 dL_law_535 rfl rfl ?_
  refine j_iconst hX dL_law_536 (rc rfl) ?_
  refine j_iadd hX dL_law_537 ?_
  obtain ⟨x81, hv, h⟩ := bs h
  refine j_sld hX hSX hv dL_law_538 ?_
  obtain ⟨r82, S83, h1, h⟩ := bd2_s h
  refine j_callVI hX mwX10_allFor miX10_allFor wd1534 cbX10 ty56 hyX10_allFor (by decide) (by decide) hcs dL_law_539 (s_X10_allFor (E := (fun z => cmb S79 z)) (S := Sm) hfl (lensM S79) h1) npX10_allFor rfl (Nat.le_of_ble_eq_true rfl) ?_
  refine j_icmp_eq hX (tgt := 1425) dL_law_542 (by decide) (fun hc => ?_) (fun hc => ?_)
  · rw [if_pos hc] at h
    refine j_iinc (L' := [(3, vI (w32 (v3 + 6))), (0, vX (.ref b)), (1, vR 0), (2, vR 56)]) hX 3 dL_law_1425 hnl (by decide) rfl rfl ?_
    refine j_goto hX (tgt := 18) dL_law_1428 (by decide) ?_
    refine j_sub [1, 2, 3, 0] rfl ?_
    exact ih _ _ _ h
  · rw [if_neg hc] at h
    refine j_iconst hX dL_law_545 (rc rfl) ?_
    cases h
theorem sl_law_c11 {X : K0} {B : Nat → Nat} {n k2 k3 b L : Nat} {xs : Nat → Int} {Q : State → Prop} (hX : Ctx X code "TelegramFeelingsLaw" 1400) (hfl : (gX X).2.2.2.2 = true) (hnl : X.2.2.2.2.2.2.2.2.2.2.2.2.2.2 = 4) (hcs : k2 ≤ X.2.2.2.1.cells ∧ k3 ≤ X.2.2.2.1.slots) (hR1 : ∀ (pc : Nat) (L : List (Nat × AV)) (M : Mem), decode code pc = .ok (.ireturn, 1) → JW X B n k2 k3 pc L [vI 1] M Q) (hSX : SX X b L xs) {rec : Int → Mem → Mem → Option Unit} (ih : ∀ (v3 : Int) (Sc Sm : Mem), rec v3 Sc Sm = some () → JW X B n k2 k3 18 [(0, vX (.ref b)), (1, vR 0), (2, vR 56), (3, vI (v3))] [] (cmb Sc Sm) Q) {v3 : Int} {Sc Sm : Mem} (h : g_law_c11 L xs rec v3 Sc Sm = some ()) : JW X B n k2 k3 547 [(0, vX (.ref b)), (1, vR 0), (2, vR 56), (3, vI (v3))] [] (cmb Sc Sm) Q := by
  unfold g_law_c11 at h
  refine j_aload_n hX 1 dL_law_547 rfl rfl ?_
  refine j_aloadX hX 0 dL_law_548 rfl rfl ?_
  refine j_iload_n hX 3 dL_law_549 rfl rfl ?_
  refine j_iconst hX dL_law_550 (rc rfl) ?_
  refine j_iadd hX dL_law_551 ?_
  obtain ⟨x84, hv, h⟩ := bs h
  refine j_sld hX hSX hv dL_law_552 ?_
  obtain ⟨r85, S86, h1, h⟩ := bd2_s h
  refine j_callVI hX mwX9_tooDear miX9_tooDear wd808 cbX9 ty0 hyX9_tooDear (by decide) (by decide) hcs dL_law_553 (s_X9_tooDear (E := (fun z => cmb z Sm)) (S := Sc) hfl (lensC Sm) h1) npX9_tooDear rfl (Nat.le_of_ble_eq_true rfl) ?_
  refine j_aload_n hX 2 dL_law_556 rfl rfl ?_
  refine j_aloadX hX 0 dL_law_557 rfl rfl ?_
  refine j_iload_n hX 3 dL_law_558 rfl rfl ?_
  refine j_iconst hX dL_law_559 (rc rfl) ?_
  refine j_iadd hX dL_law_560 ?_
  obtain ⟨x87, hv, h⟩ := bs h
  refine j_sld hX hSX hv dL_law_561 ?_
  obtain ⟨r88, S89, h1, h⟩ := bd2_s h
  refine j_callVI hX mwX10_tooDear miX10_tooDear wd1556 cbX10 ty56 hyX10_tooDear (by decide) (by decide) hcs dL_law_562 (s_X10_tooDear (E := (fun z => cmb S86 z)) (S := Sm) hfl (lensM S86) h1) npX10_tooDear rfl (Nat.le_of_ble_eq_true rfl) ?_
  refine j_icmp_eq hX (tgt := 1425) dL_law_565 (by decide) (fun hc => ?_) (fun hc => ?_)
  · rw [if_pos hc] at h
    refine j_iinc (L' := [(3, vI (w32 (v3 + 6))), (0, vX (.ref b)), (1, vR 0), (2, vR 56)]) hX 3 dL_law_1425 hnl (by decide) rfl rfl ?_
    refine j_goto hX (tgt := 18) dL_law_1428 (by decide) ?_
    refine j_sub [1, 2, 3, 0] rfl ?_
    exact ih _ _ _ h
  · rw [if_neg hc] at h
    refine j_iconst hX dL_law_568 (rc rfl) ?_
    cases h
theorem sl_law_c12 {X : K0} {B : Nat → Nat} {n k2 k3 b L : Nat} {xs : Nat → Int} {Q : State → Prop} (hX : Ctx X code "TelegramFeelingsLaw" 1400) (hfl : (gX X).2.2.2.2 = true) (hnl : X.2.2.2.2.2.2.2.2.2.2.2.2.2.2 = 4) (hcs : k2 ≤ X.2.2.2.1.cells ∧ k3 ≤ X.2.2.2.1.slots) (hR1 : ∀ (pc : Nat) (L : List (Nat × AV)) (M : Mem), decode code pc = .ok (.ireturn, 1) → JW X B n k2 k3 pc L [vI 1] M Q) (hSX : SX X b L xs) {rec : Int → Mem → Mem → Option Unit} (ih : ∀ (v3 : Int) (Sc Sm : Mem), rec v3 Sc Sm = some () → JW X B n k2 k3 18 [(0, vX (.ref b)), (1, vR 0), (2, vR 56), (3, vI (v3))] [] (cmb Sc Sm) Q) {v3 : Int} {Sc Sm : Mem} (h : g_law_c12 L xs rec v3 Sc Sm = some ()) : JW X B n k2 k3 570 [(0, vX (.ref b)), (1, vR 0), (2, vR 56), (3, vI (v3))] [] (cmb Sc Sm) Q := by
  unfold g_law_c12 at h
  refine j_aload_n hX 1 dL_law_570 rfl rfl ?_
  refine j_aloadX hX 0 dL_law_571 rfl rfl ?_
  refine j_iload_n hX 3 dL_law_572 rfl rfl ?_
  refine j_iconst hX dL_law_573 (rc rfl) ?_
  refine j_iadd hX dL_law_574 ?_
  obtain ⟨x90, hv, h⟩ := bs h
  refine j_sld hX hSX hv dL_law_575 ?_
  refine j_aloadX hX 0 dL_law_576 rfl rfl ?_
  refine j_iload_n hX 3 dL_law_577 rfl rfl ?_
  refine j_iconst hX dL_law_578 (rc rfl) ?_
  refine j_iadd hX dL_law_579 ?_
  obtain ⟨x91, hv, h⟩ := bs h
  refine j_sld hX hSX hv dL_law_580 ?_
  refine j_aloadX hX 0 dL_law_581 rfl rfl ?_
  refine j_iload_n hX 3 dL_law_582 rfl rfl ?_
  refine j_iconst hX dL_law_583 (rc rfl) ?_
  refine j_iadd hX dL_law_584 ?_
  obtain ⟨x92, hv, h⟩ := bs h
  refine j_sld hX hSX hv dL_law_585 ?_
  obtain ⟨r93, h1, h⟩ := bs h
  refine j_callVI hX mwX9_year miX9_year wd816 cbX9 ty0 hyX9_year (by decide) (by decide) hcs dL_law_586 (s_X9_year (E := (fun z => cmb z Sm)) (S := Sc) hfl (lensC Sm) h1) npX9_year rfl (Nat.le_of_ble_eq_true rfl) ?_
  refine j_aload_n hX 2 dL_law_589 rfl rfl ?_
  refine j_aloadX hX 0 dL_law_590 rfl rfl ?_
  refine j_iload_n hX 3 dL_law_591 rfl rfl ?_
  refine j_iconst hX dL_law_592 (rc rfl) ?_
  refine j_iadd hX dL_law_593 ?_
  obtain ⟨x94, hv, h⟩ := bs h
  refine j_sld hX hSX hv dL_law_594 ?_
  refine j_aloadX hX 0 dL_law_595 rfl rfl ?_
  refine j_iload_n hX 3 dL_law_596 rfl rfl ?_
  refine j_iconst hX dL_law_597 (rc rfl) ?_
  refine j_iadd hX dL_law_598 ?_
  obtain ⟨x95, hv, h⟩ := bs h
  refine j_sld hX hSX hv dL_law_599 ?_
  refine j_aloadX hX 0 dL_law_600 rfl rfl ?_
  refine j_iload_n hX 3 dL_law_601 rfl rfl ?_
  refine j_iconst hX dL_law_602 (rc rfl) ?_
  refine j_iadd hX dL_law_603 ?_
  obtain ⟨x96, hv, h⟩ := bs h
  refine j_sld hX hSX hv dL_law_604 ?_
  obtain ⟨r97, h1, h⟩ := bs h
  refine j_callVI hX mwX10_year miX10_year wd1560 cbX10 ty56 hyX10_year (by decide) (by decide) hcs dL_law_605 (s_X10_year (E := (fun z => cmb Sc z)) (S := Sm) hfl (lensM Sc) h1) npX10_year rfl (Nat.le_of_ble_eq_true rfl) ?_
  refine j_icmp_eq hX (tgt := 1425) dL_law_608 (by decide) (fun hc => ?_) (fun hc => ?_)
  · rw [if_pos hc] at h
    refine j_iinc (L' := [(3, vI (w32 (v3 + 6))), (0, vX (.ref b)), (1, vR 0), (2, vR 56)]) hX 3 dL_law_1425 hnl (by decide) rfl rfl ?_
    refine j_goto hX (tgt := 18) dL_law_1428 (by decide) ?_
    refine j_sub [1, 2, 3, 0] rfl ?_
    exact ih _ _ _ h
  · rw [if_neg hc] at h
    refine j_iconst hX dL_law_611 (rc rfl) ?_
    cases h
theorem sl_law_c13 {X : K0} {B : Nat → Nat} {n k2 k3 b L : Nat} {xs : Nat → Int} {Q : State → Prop} (hX : Ctx X code "TelegramFeelingsLaw" 1400) (hfl : (gX X).2.2.2.2 = true) (hnl : X.2.2.2.2.2.2.2.2.2.2.2.2.2.2 = 4) (hcs : k2 ≤ X.2.2.2.1.cells ∧ k3 ≤ X.2.2.2.1.slots) (hR1 : ∀ (pc : Nat) (L : List (Nat × AV)) (M : Mem), decode code pc = .ok (.ireturn, 1) → JW X B n k2 k3 pc L [vI 1] M Q) (hSX : SX X b L xs) {rec : Int → Mem → Mem → Option Unit} (ih : ∀ (v3 : Int) (Sc Sm : Mem), rec v3 Sc Sm = some () → JW X B n k2 k3 18 [(0, vX (.ref b)), (1, vR 0), (2, vR 56), (3, vI (v3))] [] (cmb Sc Sm) Q) {v3 : Int} {Sc Sm : Mem} (h : g_law_c13 L xs rec v3 Sc Sm = some ()) : JW X B n k2 k3 613 [(0, vX (.ref b)), (1, vR 0), (2, vR 56), (3, vI (v3))] [] (cmb Sc Sm) Q := by
  unfold g_law_c13 at h
  refine j_aload_n hX 1 dL_law_613 rfl rfl ?_
  refine j_aloadX hX 0 dL_law_614 rfl rfl ?_
  refine j_iload_n hX 3 dL_law_615 rfl rfl ?_
  refine j_iconst hX dL_law_616 (rc rfl) ?_
  refine j_iadd hX dL_law_617 ?_
  obtain ⟨x98, hv, h⟩ := bs h
  refine j_sld hX hSX hv dL_law_618 ?_
  obtain ⟨r99, S100, h1, h⟩ := bd2_s h
  refine j_callVL hX mwX9_came miX9_came wd832 cbX9 ty0 hyX9_came (by decide) (by decide) hcs dL_law_619 (s_X9_came (E := (fun z => cmb z Sm)) (S := Sc) hfl (lensC Sm) h1) npX9_came rfl (Nat.le_of_ble_eq_true rfl) ?_
  refine j_aload_n hX 2 dL_law_622 rfl rfl ?_
  refine j_aloadX hX 0 dL_law_623 rfl rfl ?_
  refine j_iload_n hX 3 dL_law_624 rfl rfl ?_
  refine j_iconst hX dL_law_625 (rc rfl) ?_
  refine j_iadd hX dL_law_626 ?_
  obtain ⟨x101, hv, h⟩ := bs h
  refine j_sld hX hSX hv dL_law_627 ?_
  obtain ⟨r102, S103, h1, h⟩ := bd2_s h
  refine j_callVL hX mwX10_came miX10_came wd1564 cbX10 ty56 hyX10_came (by decide) (by decide) hcs dL_law_628 (s_X10_came (E := (fun z => cmb S100 z)) (S := Sm) hfl (lensM S100) h1) npX10_came rfl (Nat.le_of_ble_eq_true rfl) ?_
  refine j_lcmp hX dL_law_631 ?_
  refine j_if_eq hX (tgt := 1425) dL_law_632 (by decide) (fun hc => ?_) (fun hc => ?_)
  · rw [if_pos hc] at h
    refine j_iinc (L' := [(3, vI (w32 (v3 + 6))), (0, vX (.ref b)), (1, vR 0), (2, vR 56)]) hX 3 dL_law_1425 hnl (by decide) rfl rfl ?_
    refine j_goto hX (tgt := 18) dL_law_1428 (by decide) ?_
    refine j_sub [1, 2, 3, 0] rfl ?_
    exact ih _ _ _ h
  · rw [if_neg hc] at h
    refine j_iconst hX dL_law_635 (rc rfl) ?_
    cases h
theorem sl_law_c14 {X : K0} {B : Nat → Nat} {n k2 k3 b L : Nat} {xs : Nat → Int} {Q : State → Prop} (hX : Ctx X code "TelegramFeelingsLaw" 1400) (hfl : (gX X).2.2.2.2 = true) (hnl : X.2.2.2.2.2.2.2.2.2.2.2.2.2.2 = 4) (hcs : k2 ≤ X.2.2.2.1.cells ∧ k3 ≤ X.2.2.2.1.slots) (hR1 : ∀ (pc : Nat) (L : List (Nat × AV)) (M : Mem), decode code pc = .ok (.ireturn, 1) → JW X B n k2 k3 pc L [vI 1] M Q) (hSX : SX X b L xs) {rec : Int → Mem → Mem → Option Unit} (ih : ∀ (v3 : Int) (Sc Sm : Mem), rec v3 Sc Sm = some () → JW X B n k2 k3 18 [(0, vX (.ref b)), (1, vR 0), (2, vR 56), (3, vI (v3))] [] (cmb Sc Sm) Q) {v3 : Int} {Sc Sm : Mem} (h : g_law_c14 L xs rec v3 Sc Sm = some ()) : JW X B n k2 k3 637 [(0, vX (.ref b)), (1, vR 0), (2, vR 56), (3, vI (v3))] [] (cmb Sc Sm) Q := by
  unfold g_law_c14 at h
  refine j_aload_n hX 1 dL_law_637 rfl rfl ?_
  refine j_aloadX hX 0 dL_law_638 rfl rfl ?_
  refine j_iload_n hX 3 dL_law_639 rfl rfl ?_
  refine j_iconst hX dL_law_640 (rc rfl) ?_
  refine j_iadd hX dL_law_641 ?_
  obtain ⟨x104, hv, h⟩ := bs h
  refine j_sld hX hSX hv dL_law_642 ?_
  refine j_aloadX hX 0 dL_law_643 rfl rfl ?_
  refine j_iload_n hX 3 dL_law_644 rfl rfl ?_
  refine j_iconst hX dL_law_645 (rc rfl) ?_
  refine j_iadd hX dL_law_646 ?_
  obtain ⟨x105, hv, h⟩ := bs h
  refine j_sld hX hSX hv dL_law_647 ?_
  obtain ⟨r106, S107, h1, h⟩ := bd2_s h
  refine j_callVI hX mwX9_cameAs miX9_cameAs wd869 cbX9 ty0 hyX9_cameAs (by decide) (by decide) hcs dL_law_648 (s_X9_cameAs (E := (fun z => cmb z Sm)) (S := Sc) hfl (lensC Sm) h1) npX9_cameAs rfl (Nat.le_of_ble_eq_true rfl) ?_
  refine j_aload_n hX 2 dL_law_651 rfl rfl ?_
  refine j_aloadX hX 0 dL_law_652 rfl rfl ?_
  refine j_iload_n hX 3 dL_law_653 rfl rfl ?_
  refine j_iconst hX dL_law_654 (rc rfl) ?_
  refine j_iadd hX dL_law_655 ?_
  obtain ⟨x108, hv, h⟩ := bs h
  refine j_sld hX hSX hv dL_law_656 ?_
  refine j_aloadX hX 0 dL_law_657 rfl rfl ?_
  refine j_iload_n hX 3 dL_law_658 rfl rfl ?_
  refine j_iconst hX dL_law_659 (rc rfl) ?_
  refine j_iadd hX dL_law_660 ?_
  obtain ⟨x109, hv, h⟩ := bs h
  refine j_sld hX hSX hv dL_law_661 ?_
  obtain ⟨r110, S111, h1, h⟩ := bd2_s h
  refine j_callVI hX mwX10_cameAs miX10_cameAs wd1596 cbX10 ty56 hyX10_cameAs (by decide) (by decide) hcs dL_law_662 (s_X10_cameAs (E := (fun z => cmb S107 z)) (S := Sm) hfl (lensM S107) h1) npX10_cameAs rfl (Nat.le_of_ble_eq_true rfl) ?_
  refine j_icmp_eq hX (tgt := 1425) dL_law_665 (by decide) (fun hc => ?_) (fun hc => ?_)
  · rw [if_pos hc] at h
    refine j_iinc (L' := [(3, vI (w32 (v3 + 6))), (0, vX (.ref b)), (1, vR 0), (2, vR 56)]) hX 3 dL_law_1425 hnl (by decide) rfl rfl ?_
    refine j_goto hX (tgt := 18) dL_law_1428 (by decide) ?_
    refine j_sub [1, 2, 3, 0] rfl ?_
    exact ih _ _ _ h
  · rw [if_neg hc] at h
    refine j_iconst hX dL_law_668 (rc rfl) ?_
    cases h
theorem sl_law_c15 {X : K0} {B : Nat → Nat} {n k2 k3 b L : Nat} {xs : Nat → Int} {Q : State → Prop} (hX : Ctx X code "TelegramFeelingsLaw" 1400) (hfl : (gX X).2.2.2.2 = true) (hnl : X.2.2.2.2.2.2.2.2.2.2.2.2.2.2 = 4) (hcs : k2 ≤ X.2.2.2.1.cells ∧ k3 ≤ X.2.2.2.1.slots) (hR1 : ∀ (pc : Nat) (L : List (Nat × AV)) (M : Mem), decode code pc = .ok (.ireturn, 1) → JW X B n k2 k3 pc L [vI 1] M Q) (hSX : SX X b L xs) {rec : Int → Mem → Mem → Option Unit} (ih : ∀ (v3 : Int) (Sc Sm : Mem), rec v3 Sc Sm = some () → JW X B n k2 k3 18 [(0, vX (.ref b)), (1, vR 0), (2, vR 56), (3, vI (v3))] [] (cmb Sc Sm) Q) {v3 : Int} {Sc Sm : Mem} (h : g_law_c15 L xs rec v3 Sc Sm = some ()) : JW X B n k2 k3 670 [(0, vX (.ref b)), (1, vR 0), (2, vR 56), (3, vI (v3))] [] (cmb Sc Sm) Q := by
  unfold g_law_c15 at h
  refine j_aload_n hX 1 dL_law_670 rfl rfl ?_
  refine j_aloadX hX 0 dL_law_671 rfl rfl ?_
  refine j_iload_n hX 3 dL_law_672 rfl rfl ?_
  refine j_iconst hX dL_law_673 (rc rfl) ?_
  refine j_iadd hX dL_law_674 ?_
  obtain ⟨x112, hv, h⟩ := bs h
  refine j_sld hX hSX hv dL_law_675 ?_
  refine j_aloadX hX 0 dL_law_676 rfl rfl ?_
  refine j_iload_n hX 3 dL_law_677 rfl rfl ?_
  refine j_iconst hX dL_law_678 (rc rfl) ?_
  refine j_iadd hX dL_law_679 ?_
  obtain ⟨x113, hv, h⟩ := bs h
  refine j_sld hX hSX hv dL_law_680 ?_
  refine j_aloadX hX 0 dL_law_681 rfl rfl ?_
  refine j_iload_n hX 3 dL_law_682 rfl rfl ?_
  refine j_iconst hX dL_law_683 (rc rfl) ?_
  refine j_iadd hX dL_law_684 ?_
  obtain ⟨x114, hv, h⟩ := bs h
  refine j_sld hX hSX hv dL_law_685 ?_
  obtain ⟨r115, S116, h1, h⟩ := bd2_s h
  refine j_callVL hX mwX9_meant miX9_meant wd884 cbX9 ty0 hyX9_meant (by decide) (by decide) hcs dL_law_686 (s_X9_meant (E := (fun z => cmb z Sm)) (S := Sc) hfl (lensC Sm) h1) npX9_meant rfl (Nat.le_of_ble_eq_true rfl) ?_
  refine j_aload_n hX 2 dL_law_689 rfl rfl ?_
  refine j_aloadX hX 0 dL_law_690 rfl rfl ?_
  refine j_iload_n hX 3 dL_law_691 rfl rfl ?_
  refine j_iconst hX dL_law_692 (rc rfl) ?_
  refine j_iadd hX dL_law_693 ?_
  obtain ⟨x117, hv, h⟩ := bs h
  refine j_sld hX hSX hv dL_law_694 ?_
  refine j_aloadX hX 0 dL_law_695 rfl rfl ?_
  refine j_iload_n hX 3 dL_law_696 rfl rfl ?_
  refine j_iconst hX dL_law_697 (rc rfl) ?_
  refine j_iadd hX dL_law_698 ?_
  obtain ⟨x118, hv, h⟩ := bs h
  refine j_sld hX hSX hv dL_law_699 ?_
  refine j_aloadX hX 0 dL_law_700 rfl rfl ?_
  refine j_iload_n hX 3 dL_law_701 rfl rfl ?_
  refine j_iconst hX dL_law_702 (rc rfl) ?_
  refine j_iadd hX dL_law_703 ?_
  obtain ⟨x119, hv, h⟩ := bs h
  refine j_sld hX hSX hv dL_law_704 ?_
  obtain ⟨r120, S121, h1, h⟩ := bd2_s h
  refine j_callVL hX mwX10_meant miX10_meant wd1600 cbX10 ty56 hyX10_meant (by decide) (by decide) hcs dL_law_705 (s_X10_meant (E := (fun z => cmb S116 z)) (S := Sm) hfl (lensM S116) h1) npX10_meant rfl (Nat.le_of_ble_eq_true rfl) ?_
  refine j_lcmp hX dL_law_708 ?_
  refine j_if_eq hX (tgt := 1425) dL_law_709 (by decide) (fun hc => ?_) (fun hc => ?_)
  · rw [if_pos hc] at h
    refine j_iinc (L' := [(3, vI (w32 (v3 + 6))), (0, vX (.ref b)), (1, vR 0), (2, vR 56)]) hX 3 dL_law_1425 hnl (by decide) rfl rfl ?_
    refine j_goto hX (tgt := 18) dL_law_1428 (by decide) ?_
    refine j_sub [1, 2, 3, 0] rfl ?_
    exact ih _ _ _ h
  · rw [if_neg hc] at h
    refine j_iconst hX dL_law_712 (rc rfl) ?_
    cases h
theorem sl_law_c16 {X : K0} {B : Nat → Nat} {n k2 k3 b L : Nat} {xs : Nat → Int} {Q : State → Prop} (hX : Ctx X code "TelegramFeelingsLaw" 1400) (hfl : (gX X).2.2.2.2 = true) (hnl : X.2.2.2.2.2.2.2.2.2.2.2.2.2.2 = 4) (hcs : k2 ≤ X.2.2.2.1.cells ∧ k3 ≤ X.2.2.2.1.slots) (hR1 : ∀ (pc : Nat) (L : List (Nat × AV)) (M : Mem), decode code pc = .ok (.ireturn, 1) → JW X B n k2 k3 pc L [vI 1] M Q) (hSX : SX X b L xs) {rec : Int → Mem → Mem → Option Unit} (ih : ∀ (v3 : Int) (Sc Sm : Mem), rec v3 Sc Sm = some () → JW X B n k2 k3 18 [(0, vX (.ref b)), (1, vR 0), (2, vR 56), (3, vI (v3))] [] (cmb Sc Sm) Q) {v3 : Int} {Sc Sm : Mem} (h : g_law_c16 L xs rec v3 Sc Sm = some ()) : JW X B n k2 k3 714 [(0, vX (.ref b)), (1, vR 0), (2, vR 56), (3, vI (v3))] [] (cmb Sc Sm) Q := by
  unfold g_law_c16 at h
  refine j_aload_n hX 1 dL_law_714 rfl rfl ?_
  refine j_aloadX hX 0 dL_law_715 rfl rfl ?_
  refine j_iload_n hX 3 dL_law_716 rfl rfl ?_
  refine j_iconst hX dL_law_717 (rc rfl) ?_
  refine j_iadd hX dL_law_718 ?_
  obtain ⟨x122, hv, h⟩ := bs h
  refine j_sld hX hSX hv dL_law_719 ?_
  obtain ⟨r123, S124, h1, h⟩ := bd2_s h
  refine j_callVI hX mwX9_certain miX9_certain wd891 cbX9 ty0 hyX9_certain (by decide) (by decide) hcs dL_law_720 (s_X9_certain (E := (fun z => cmb z Sm)) (S := Sc) hfl (lensC Sm) h1) npX9_certain rfl (Nat.le_of_ble_eq_true rfl) ?_
  refine j_aload_n hX 2 dL_law_723 rfl rfl ?_
  refine j_aloadX hX 0 dL_law_724 rfl rfl ?_
  refine j_iload_n hX 3 dL_law_725 rfl rfl ?_
  refine j_iconst hX dL_law_726 (rc rfl) ?_
  refine j_iadd hX dL_law_727 ?_
  obtain ⟨x125, hv, h⟩ := bs h
  refine j_sld hX hSX hv dL_law_728 ?_
  obtain ⟨r126, S127, h1, h⟩ := bd2_s h
  refine j_callVI hX mwX10_certain miX10_certain wd1611 cbX10 ty56 hyX10_certain (by decide) (by decide) hcs dL_law_729 (s_X10_certain (E := (fun z => cmb S124 z)) (S := Sm) hfl (lensM S124) h1) npX10_certain rfl (Nat.le_of_ble_eq_true rfl) ?_
  refine j_icmp_eq hX (tgt := 1425) dL_law_732 (by decide) (fun hc => ?_) (fun hc => ?_)
  · rw [if_pos hc] at h
    refine j_iinc (L' := [(3, vI (w32 (v3 + 6))), (0, vX (.ref b)), (1, vR 0), (2, vR 56)]) hX 3 dL_law_1425 hnl (by decide) rfl rfl ?_
    refine j_goto hX (tgt := 18) dL_law_1428 (by decide) ?_
    refine j_sub [1, 2, 3, 0] rfl ?_
    exact ih _ _ _ h
  · rw [if_neg hc] at h
    refine j_iconst hX dL_law_735 (rc rfl) ?_
    cases h
theorem sl_law_c17 {X : K0} {B : Nat → Nat} {n k2 k3 b L : Nat} {xs : Nat → Int} {Q : State → Prop} (hX : Ctx X code "TelegramFeelingsLaw" 1400) (hfl : (gX X).2.2.2.2 = true) (hnl : X.2.2.2.2.2.2.2.2.2.2.2.2.2.2 = 4) (hcs : k2 ≤ X.2.2.2.1.cells ∧ k3 ≤ X.2.2.2.1.slots) (hR1 : ∀ (pc : Nat) (L : List (Nat × AV)) (M : Mem), decode code pc = .ok (.ireturn, 1) → JW X B n k2 k3 pc L [vI 1] M Q) (hSX : SX X b L xs) {rec : Int → Mem → Mem → Option Unit} (ih : ∀ (v3 : Int) (Sc Sm : Mem), rec v3 Sc Sm = some () → JW X B n k2 k3 18 [(0, vX (.ref b)), (1, vR 0), (2, vR 56), (3, vI (v3))] [] (cmb Sc Sm) Q) {v3 : Int} {Sc Sm : Mem} (h : g_law_c17 L xs rec v3 Sc Sm = some ()) : JW X B n k2 k3 737 [(0, vX (.ref b)), (1, vR 0), (2, vR 56), (3, vI (v3))] [] (cmb Sc Sm) Q := by
  unfold g_law_c17 at h
  refine j_aload_n hX 1 dL_law_737 rfl rfl ?_
  refine j_aloadX hX 0 dL_law_738 rfl rfl ?_
  refine j_iload_n hX 3 dL_law_739 rfl rfl ?_
  refine j_iconst hX dL_law_740 (rc rfl) ?_
  refine j_iadd hX dL_law_741 ?_
  obtain ⟨x128, hv, h⟩ := bs h
  refine j_sld hX hSX hv dL_law_742 ?_
  refine j_aloadX hX 0 dL_law_743 rfl rfl ?_
  refine j_iload_n hX 3 dL_law_744 rfl rfl ?_
  refine j_iconst hX dL_law_745 (rc rfl) ?_
  refine j_iadd hX dL_law_746 ?_
  obtain ⟨x129, hv, h⟩ := bs h
  refine j_sld hX hSX hv dL_law_747 ?_
  obtain ⟨r130, S131, h1, h⟩ := bd2_s h
  refine j_callVL hX mwX9_safe miX9_safe wd900 cbX9 ty0 hyX9_safe (by decide) (by decide) hcs dL_law_748 (s_X9_safe (E := (fun z => cmb z Sm)) (S := Sc) hfl (lensC Sm) h1) npX9_safe rfl (Nat.le_of_ble_eq_true rfl) ?_
  refine j_aload_n hX 2 dL_law_751 rfl rfl ?_
  refine j_aloadX hX 0 dL_law_752 rfl rfl ?_
  refine j_iload_n hX 3 dL_law_753 rfl rfl ?_
  refine j_iconst hX dL_law_754 (rc rfl) ?_
  refine j_iadd hX dL_law_755 ?_
  obtain ⟨x132, hv, h⟩ := bs h
  refine j_sld hX hSX hv dL_law_756 ?_
  refine j_aloadX hX 0 dL_law_757 rfl rfl ?_
  refine j_iload_n hX 3 dL_law_758 rfl rfl ?_
  refine j_iconst hX dL_law_759 (rc rfl) ?_
  refine j_iadd hX dL_law_760 ?_
  obtain ⟨x133, hv, h⟩ := bs h
  refine j_sld hX hSX hv dL_law_761 ?_
  obtain ⟨r134, S135, h1, h⟩ := bd2_s h
  refine j_callVL hX mwX10_safe miX10_safe wd1615 cbX10 ty56 hyX10_safe (by decide) (by decide) hcs dL_law_762 (s_X10_safe (E := (fun z => cmb S131 z)) (S := Sm) hfl (lensM S131) h1) npX10_safe rfl (Nat.le_of_ble_eq_true rfl) ?_
  refine j_lcmp hX dL_law_765 ?_
  refine j_if_eq hX (tgt := 1425) dL_law_766 (by decide) (fun hc => ?_) (fun hc => ?_)
  · rw [if_pos hc] at h
    refine j_iinc (L' := [(3, vI (w32 (v3 + 6))), (0, vX (.ref b)), (1, vR 0), (2, vR 56)]) hX 3 dL_law_1425 hnl (by decide) rfl rfl ?_
    refine j_goto hX (tgt := 18) dL_law_1428 (by decide) ?_
    refine j_sub [1, 2, 3, 0] rfl ?_
    exact ih _ _ _ h
  · rw [if_neg hc] at h
    refine j_iconst hX dL_law_769 (rc rfl) ?_
    cases h
theorem sl_law_c18 {X : K0} {B : Nat → Nat} {n k2 k3 b L : Nat} {xs : Nat → Int} {Q : State → Prop} (hX : Ctx X code "TelegramFeelingsLaw" 1400) (hfl : (gX X).2.2.2.2 = true) (hnl : X.2.2.2.2.2.2.2.2.2.2.2.2.2.2 = 4) (hcs : k2 ≤ X.2.2.2.1.cells ∧ k3 ≤ X.2.2.2.1.slots) (hR1 : ∀ (pc : Nat) (L : List (Nat × AV)) (M : Mem), decode code pc = .ok (.ireturn, 1) → JW X B n k2 k3 pc L [vI 1] M Q) (hSX : SX X b L xs) {rec : Int → Mem → Mem → Option Unit} (ih : ∀ (v3 : Int) (Sc Sm : Mem), rec v3 Sc Sm = some () → JW X B n k2 k3 18 [(0, vX (.ref b)), (1, vR 0), (2, vR 56), (3, vI (v3))] [] (cmb Sc Sm) Q) {v3 : Int} {Sc Sm : Mem} (h : g_law_c18 L xs rec v3 Sc Sm = some ()) : JW X B n k2 k3 771 [(0, vX (.ref b)), (1, vR 0), (2, vR 56), (3, vI (v3))] [] (cmb Sc Sm) Q := by
  unfold g_law_c18 at h
  refine j_aload_n hX 1 dL_law_771 rfl rfl ?_
  refine j_aloadX hX 0 dL_law_772 rfl rfl ?_
  refine j_iload_n hX 3 dL_law_773 rfl rfl ?_
  refine j_iconst hX dL_law_774 (rc rfl) ?_
  refine j_iadd hX dL_law_775 ?_
  obtain ⟨x136, hv, h⟩ := bs h
  refine j_sld hX hSX hv dL_law_776 ?_
  refine j_aloadX hX 0 dL_law_777 rfl rfl ?_
  refine j_iload_n hX 3 dL_law_778 rfl rfl ?_
  refine j_iconst hX dL_law_779 (rc rfl) ?_
  refine j_iadd hX dL_law_780 ?_
  obtain ⟨x137, hv, h⟩ := bs h
  refine j_sld hX hSX hv dL_law_781 ?_
  obtain ⟨r138, S139, h1, h⟩ := bd2_s h
  refine j_callVI hX mwX9_unsigned miX9_unsigned wd925 cbX9 ty0 hyX9_unsigned (by decide) (by decide) hcs dL_law_782 (s_X9_unsigned (E := (fun z => cmb z Sm)) (S := Sc) hfl (lensC Sm) h1) npX9_unsigned rfl (Nat.le_of_ble_eq_true rfl) ?_
  refine j_aload_n hX 2 dL_law_785 rfl rfl ?_
  refine j_aloadX hX 0 dL_law_786 rfl rfl ?_
  refine j_iload_n hX 3 dL_law_787 rfl rfl ?_
  refine j_iconst hX dL_law_788 (rc rfl) ?_
  refine j_iadd hX dL_law_789 ?_
  obtain ⟨x140, hv, h⟩ := bs h
  refine j_sld hX hSX hv dL_law_790 ?_
  refine j_aloadX hX 0 dL_law_791 rfl rfl ?_
  refine j_iload_n hX 3 dL_law_792 rfl rfl ?_
  refine j_iconst hX dL_law_793 (rc rfl) ?_
  refine j_iadd hX dL_law_794 ?_
  obtain ⟨x141, hv, h⟩ := bs h
  refine j_sld hX hSX hv dL_law_795 ?_
  obtain ⟨r142, S143, h1, h⟩ := bd2_s h
  refine j_callVI hX mwX10_unsigned miX10_unsigned wd1620 cbX10 ty56 hyX10_unsigned (by decide) (by decide) hcs dL_law_796 (s_X10_unsigned (E := (fun z => cmb S139 z)) (S := Sm) hfl (lensM S139) h1) npX10_unsigned rfl (Nat.le_of_ble_eq_true rfl) ?_
  refine j_icmp_eq hX (tgt := 1425) dL_law_799 (by decide) (fun hc => ?_) (fun hc => ?_)
  · rw [if_pos hc] at h
    refine j_iinc (L' := [(3, vI (w32 (v3 + 6))), (0, vX (.ref b)), (1, vR 0), (2, vR 56)]) hX 3 dL_law_1425 hnl (by decide) rfl rfl ?_
    refine j_goto hX (tgt := 18) dL_law_1428 (by decide) ?_
    refine j_sub [1, 2, 3, 0] rfl ?_
    exact ih _ _ _ h
  · rw [if_neg hc] at h
    refine j_iconst hX dL_law_802 (rc rfl) ?_
    cases h
theorem sl_law_c19 {X : K0} {B : Nat → Nat} {n k2 k3 b L : Nat} {xs : Nat → Int} {Q : State → Prop} (hX : Ctx X code "TelegramFeelingsLaw" 1400) (hfl : (gX X).2.2.2.2 = true) (hnl : X.2.2.2.2.2.2.2.2.2.2.2.2.2.2 = 4) (hcs : k2 ≤ X.2.2.2.1.cells ∧ k3 ≤ X.2.2.2.1.slots) (hR1 : ∀ (pc : Nat) (L : List (Nat × AV)) (M : Mem), decode code pc = .ok (.ireturn, 1) → JW X B n k2 k3 pc L [vI 1] M Q) (hSX : SX X b L xs) {rec : Int → Mem → Mem → Option Unit} (ih : ∀ (v3 : Int) (Sc Sm : Mem), rec v3 Sc Sm = some () → JW X B n k2 k3 18 [(0, vX (.ref b)), (1, vR 0), (2, vR 56), (3, vI (v3))] [] (cmb Sc Sm) Q) {v3 : Int} {Sc Sm : Mem} (h : g_law_c19 L xs rec v3 Sc Sm = some ()) : JW X B n k2 k3 804 [(0, vX (.ref b)), (1, vR 0), (2, vR 56), (3, vI (v3))] [] (cmb Sc Sm) Q := by
  unfold g_law_c19 at h
  refine j_aload_n hX 1 dL_law_804 rfl rfl ?_
  refine j_aloadX hX 0 dL_law_805 rfl rfl ?_
  refine j_iload_n hX 3 dL_law_806 rfl rfl ?_
  refine j_iconst hX dL_law_807 (rc rfl) ?_
  refine j_iadd hX dL_law_808 ?_
  obtain ⟨x144, hv, h⟩ := bs h
  refine j_sld hX hSX hv dL_law_809 ?_
  refine j_aloadX hX 0 dL_law_810 rfl rfl ?_
  refine j_iload_n hX 3 dL_law_811 rfl rfl ?_
  refine j_iconst hX dL_law_812 (rc rfl) ?_
  refine j_iadd hX dL_law_813 ?_
  obtain ⟨x145, hv, h⟩ := bs h
  refine j_sld hX hSX hv dL_law_814 ?_
  refine j_aloadX hX 0 dL_law_815 rfl rfl ?_
  refine j_iload_n hX 3 dL_law_816 rfl rfl ?_
  refine j_iconst hX dL_law_817 (rc rfl) ?_
  refine j_iadd hX dL_law_818 ?_
  obtain ⟨x146, hv, h⟩ := bs h
  refine j_sld hX hSX hv dL_law_819 ?_
  obtain ⟨r147, h1, h⟩ := bs h
  refine j_callVI hX mwX9_club miX9_club wd933 cbX9 ty0 hyX9_club (by decide) (by decide) hcs dL_law_820 (s_X9_club (E := (fun z => cmb z Sm)) (S := Sc) hfl (lensC Sm) h1) npX9_club rfl (Nat.le_of_ble_eq_true rfl) ?_
  refine j_aload_n hX 2 dL_law_823 rfl rfl ?_
  refine j_aloadX hX 0 dL_law_824 rfl rfl ?_
  refine j_iload_n hX 3 dL_law_825 rfl rfl ?_
  refine j_iconst hX dL_law_826 (rc rfl) ?_
  refine j_iadd hX dL_law_827 ?_
  obtain ⟨x148, hv, h⟩ := bs h
  refine j_sld hX hSX hv dL_law_828 ?_
  refine j_aloadX hX 0 dL_law_829 rfl rfl ?_
  refine j_iload_n hX 3 dL_law_830 rfl rfl ?_
  refine j_iconst hX dL_law_831 (rc rfl) ?_
  refine j_iadd hX dL_law_832 ?_
  obtain ⟨x149, hv, h⟩ := bs h
  refine j_sld hX hSX hv dL_law_833 ?_
  refine j_aloadX hX 0 dL_law_834 rfl rfl ?_
  refine j_iload_n hX 3 dL_law_835 rfl rfl ?_
  refine j_iconst hX dL_law_836 (rc rfl) ?_
  refine j_iadd hX dL_law_837 ?_
  obtain ⟨x150, hv, h⟩ := bs h
  refine j_sld hX hSX hv dL_law_838 ?_
  obtain ⟨r151, h1, h⟩ := bs h
  refine j_callVI hX mwX10_club miX10_club wd1624 cbX10 ty56 hyX10_club (by decide) (by decide) hcs dL_law_839 (s_X10_club (E := (fun z => cmb Sc z)) (S := Sm) hfl (lensM Sc) h1) npX10_club rfl (Nat.le_of_ble_eq_true rfl) ?_
  refine j_icmp_eq hX (tgt := 1425) dL_law_842 (by decide) (fun hc => ?_) (fun hc => ?_)
  · rw [if_pos hc] at h
    refine j_iinc (L' := [(3, vI (w32 (v3 + 6))), (0, vX (.ref b)), (1, vR 0), (2, vR 56)]) hX 3 dL_law_1425 hnl (by decide) rfl rfl ?_
    refine j_goto hX (tgt := 18) dL_law_1428 (by decide) ?_
    refine j_sub [1, 2, 3, 0] rfl ?_
    exact ih _ _ _ h
  · rw [if_neg hc] at h
    refine j_iconst hX dL_law_845 (rc rfl) ?_
    cases h
theorem sl_law_c20 {X : K0} {B : Nat → Nat} {n k2 k3 b L : Nat} {xs : Nat → Int} {Q : State → Prop} (hX : Ctx X code "TelegramFeelingsLaw" 1400) (hfl : (gX X).2.2.2.2 = true) (hnl : X.2.2.2.2.2.2.2.2.2.2.2.2.2.2 = 4) (hcs : k2 ≤ X.2.2.2.1.cells ∧ k3 ≤ X.2.2.2.1.slots) (hR1 : ∀ (pc : Nat) (L : List (Nat × AV)) (M : Mem), decode code pc = .ok (.ireturn, 1) → JW X B n k2 k3 pc L [vI 1] M Q) (hSX : SX X b L xs) {rec : Int → Mem → Mem → Option Unit} (ih : ∀ (v3 : Int) (Sc Sm : Mem), rec v3 Sc Sm = some () → JW X B n k2 k3 18 [(0, vX (.ref b)), (1, vR 0), (2, vR 56), (3, vI (v3))] [] (cmb Sc Sm) Q) {v3 : Int} {Sc Sm : Mem} (h : g_law_c20 L xs rec v3 Sc Sm = some ()) : JW X B n k2 k3 847 [(0, vX (.ref b)), (1, vR 0), (2, vR 56), (3, vI (v3))] [] (cmb Sc Sm) Q := by
  unfold g_law_c20 at h
  refine j_aload_n hX 1 dL_law_847 rfl rfl ?_
  refine j_aloadX hX 0 dL_law_848 rfl rfl ?_
  refine j_iload_n hX 3 dL_law_849 rfl rfl ?_
  refine j_iconst hX dL_law_850 (rc rfl) ?_
  refine j_iadd hX dL_law_851 ?_
  obtain ⟨x152, hv, h⟩ := bs h
  refine j_sld hX hSX hv dL_law_852 ?_
  obtain ⟨r153, h1, h⟩ := bs h
  refine j_callVI hX mwX9_lacks miX9_lacks wd942 cbX9 ty0 hyX9_lacks (by decide) (by decide) hcs dL_law_853 (s_X9_lacks (E := (fun z => cmb z Sm)) (S := Sc) hfl (lensC Sm) h1) npX9_lacks rfl (Nat.le_of_ble_eq_true rfl) ?_
  refine j_aload_n hX 2 dL_law_856 rfl rfl ?_
  refine j_aloadX hX 0 dL_law_857 rfl rfl ?_
  refine j_iload_n hX 3 dL_law_858 rfl rfl ?_
  refine j_iconst hX dL_law_859 (rc rfl) ?_
  refine j_iadd hX dL_law_860 ?_
  obtain ⟨x154, hv, h⟩ := bs h
  refine j_sld hX hSX hv dL_law_861 ?_
  obtain ⟨r155, h1, h⟩ := bs h
  refine j_callVI hX mwX10_lacks miX10_lacks wd1628 cbX10 ty56 hyX10_lacks (by decide) (by decide) hcs dL_law_862 (s_X10_lacks (E := (fun z => cmb Sc z)) (S := Sm) hfl (lensM Sc) h1) npX10_lacks rfl (Nat.le_of_ble_eq_true rfl) ?_
  refine j_icmp_eq hX (tgt := 1425) dL_law_865 (by decide) (fun hc => ?_) (fun hc => ?_)
  · rw [if_pos hc] at h
    refine j_iinc (L' := [(3, vI (w32 (v3 + 6))), (0, vX (.ref b)), (1, vR 0), (2, vR 56)]) hX 3 dL_law_1425 hnl (by decide) rfl rfl ?_
    refine j_goto hX (tgt := 18) dL_law_1428 (by decide) ?_
    refine j_sub [1, 2, 3, 0] rfl ?_
    exact ih _ _ _ h
  · rw [if_neg hc] at h
    refine j_iconst hX dL_law_868 (rc rfl) ?_
    cases h
theorem sl_law_c21 {X : K0} {B : Nat → Nat} {n k2 k3 b L : Nat} {xs : Nat → Int} {Q : State → Prop} (hX : Ctx X code "TelegramFeelingsLaw" 1400) (hfl : (gX X).2.2.2.2 = true) (hnl : X.2.2.2.2.2.2.2.2.2.2.2.2.2.2 = 4) (hcs : k2 ≤ X.2.2.2.1.cells ∧ k3 ≤ X.2.2.2.1.slots) (hR1 : ∀ (pc : Nat) (L : List (Nat × AV)) (M : Mem), decode code pc = .ok (.ireturn, 1) → JW X B n k2 k3 pc L [vI 1] M Q) (hSX : SX X b L xs) {rec : Int → Mem → Mem → Option Unit} (ih : ∀ (v3 : Int) (Sc Sm : Mem), rec v3 Sc Sm = some () → JW X B n k2 k3 18 [(0, vX (.ref b)), (1, vR 0), (2, vR 56), (3, vI (v3))] [] (cmb Sc Sm) Q) {v3 : Int} {Sc Sm : Mem} (h : g_law_c21 L xs rec v3 Sc Sm = some ()) : JW X B n k2 k3 870 [(0, vX (.ref b)), (1, vR 0), (2, vR 56), (3, vI (v3))] [] (cmb Sc Sm) Q := by
  unfold g_law_c21 at h
  refine j_aload_n hX 1 dL_law_870 rfl rfl ?_
  refine j_aloadX hX 0 dL_law_871 rfl rfl ?_
  refine j_iload_n hX 3 dL_law_872 rfl rfl ?_
  refine j_iconst hX dL_law_873 (rc rfl) ?_
  refine j_iadd hX dL_law_874 ?_
  obtain ⟨x156, hv, h⟩ := bs h
  refine j_sld hX hSX hv dL_law_875 ?_
  refine j_aloadX hX 0 dL_law_876 rfl rfl ?_
  refine j_iload_n hX 3 dL_law_877 rfl rfl ?_
  refine j_iconst hX dL_law_878 (rc rfl) ?_
  refine j_iadd hX dL_law_879 ?_
  obtain ⟨x157, hv, h⟩ := bs h
  refine j_sld hX hSX hv dL_law_880 ?_
  refine j_aloadX hX 0 dL_law_881 rfl rfl ?_
  refine j_iload_n hX 3 dL_law_882 rfl rfl ?_
  refine j_iconst hX dL_law_883 (rc rfl) ?_
  refine j_iadd hX dL_law_884 ?_
  obtain ⟨x158, hv, h⟩ := bs h
  refine j_sld hX hSX hv dL_law_885 ?_
  obtain ⟨r159, h1, h⟩ := bs h
  refine j_callVI hX mwX9_drawn miX9_drawn wd954 cbX9 ty0 hyX9_drawn (by decide) (by decide) hcs dL_law_886 (s_X9_drawn (E := (fun z => cmb z Sm)) (S := Sc) hfl (lensC Sm) h1) npX9_drawn rfl (Nat.le_of_ble_eq_true rfl) ?_
  refine j_aload_n hX 2 dL_law_889 rfl rfl ?_
  refine j_aloadX hX 0 dL_law_890 rfl rfl ?_
  refine j_iload_n hX 3 dL_law_891 rfl rfl ?_
  refine j_iconst hX dL_law_892 (rc rfl) ?_
  refine j_iadd hX dL_law_893 ?_
  obtain ⟨x160, hv, h⟩ := bs h
  refine j_sld hX hSX hv dL_law_894 ?_
  refine j_aloadX hX 0 dL_law_895 rfl rfl ?_
  refine j_iload_n hX 3 dL_law_896 rfl rfl ?_
  refine j_iconst hX dL_law_897 (rc rfl) ?_
  refine j_iadd hX dL_law_898 ?_
  obtain ⟨x161, hv, h⟩ := bs h
  refine j_sld hX hSX hv dL_law_899 ?_
  refine j_aloadX hX 0 dL_law_900 rfl rfl ?_
  refine j_iload_n hX 3 dL_law_901 rfl rfl ?_
  refine j_iconst hX dL_law_902 (rc rfl) ?_
  refine j_iadd hX dL_law_903 ?_
  obtain ⟨x162, hv, h⟩ := bs h
  refine j_sld hX hSX hv dL_law_904 ?_
  obtain ⟨r163, S164, h1, h⟩ := bd2_s h
  refine j_callVI hX mwX10_drawn miX10_drawn wd1632 cbX10 ty56 hyX10_drawn (by decide) (by decide) hcs dL_law_905 (s_X10_drawn (E := (fun z => cmb Sc z)) (S := Sm) hfl (lensM Sc) h1) npX10_drawn rfl (Nat.le_of_ble_eq_true rfl) ?_
  refine j_icmp_eq hX (tgt := 1425) dL_law_908 (by decide) (fun hc => ?_) (fun hc => ?_)
  · rw [if_pos hc] at h
    refine j_iinc (L' := [(3, vI (w32 (v3 + 6))), (0, vX (.ref b)), (1, vR 0), (2, vR 56)]) hX 3 dL_law_1425 hnl (by decide) rfl rfl ?_
    refine j_goto hX (tgt := 18) dL_law_1428 (by decide) ?_
    refine j_sub [1, 2, 3, 0] rfl ?_
    exact ih _ _ _ h
  · rw [if_neg hc] at h
    refine j_iconst hX dL_law_911 (rc rfl) ?_
    cases h
theorem sl_law_c22 {X : K0} {B : Nat → Nat} {n k2 k3 b L : Nat} {xs : Nat → Int} {Q : State → Prop} (hX : Ctx X code "TelegramFeelingsLaw" 1400) (hfl : (gX X).2.2.2.2 = true) (hnl : X.2.2.2.2.2.2.2.2.2.2.2.2.2.2 = 4) (hcs : k2 ≤ X.2.2.2.1.cells ∧ k3 ≤ X.2.2.2.1.slots) (hR1 : ∀ (pc : Nat) (L : List (Nat × AV)) (M : Mem), decode code pc = .ok (.ireturn, 1) → JW X B n k2 k3 pc L [vI 1] M Q) (hSX : SX X b L xs) {rec : Int → Mem → Mem → Option Unit} (ih : ∀ (v3 : Int) (Sc Sm : Mem), rec v3 Sc Sm = some () → JW X B n k2 k3 18 [(0, vX (.ref b)), (1, vR 0), (2, vR 56), (3, vI (v3))] [] (cmb Sc Sm) Q) {v3 : Int} {Sc Sm : Mem} (h : g_law_c22 L xs rec v3 Sc Sm = some ()) : JW X B n k2 k3 913 [(0, vX (.ref b)), (1, vR 0), (2, vR 56), (3, vI (v3))] [] (cmb Sc Sm) Q := by
  unfold g_law_c22 at h
  refine j_aload_n hX 1 dL_law_913 rfl rfl ?_
  refine j_aloadX hX 0 dL_law_914 rfl rfl ?_
  refine j_iload_n hX 3 dL_law_915 rfl rfl ?_
  refine j_iconst hX dL_law_916 (rc rfl) ?_
  refine j_iadd hX dL_law_917 ?_
  obtain ⟨x165, hv, h⟩ := bs h
  refine j_sld hX hSX hv dL_law_918 ?_
  refine j_aloadX hX 0 dL_law_919 rfl rfl ?_
  refine j_iload_n hX 3 dL_law_920 rfl rfl ?_
  refine j_iconst hX dL_law_921 (rc rfl) ?_
  refine j_iadd hX dL_law_922 ?_
  obtain ⟨x166, hv, h⟩ := bs h
  refine j_sld hX hSX hv dL_law_923 ?_
  obtain ⟨r167, S168, h1, h⟩ := bd2_s h
  refine j_callVI hX mwX9_send miX9_send wd964 cbX9 ty0 hyX9_send (by decide) (by decide) hcs dL_law_924 (s_X9_send (E := (fun z => cmb z Sm)) (S := Sc) hfl (lensC Sm) h1) npX9_send rfl (Nat.le_of_ble_eq_true rfl) ?_
  refine j_aload_n hX 2 dL_law_927 rfl rfl ?_
  refine j_aloadX hX 0 dL_law_928 rfl rfl ?_
  refine j_iload_n hX 3 dL_law_929 rfl rfl ?_
  refine j_iconst hX dL_law_930 (rc rfl) ?_
  refine j_iadd hX dL_law_931 ?_
  obtain ⟨x169, hv, h⟩ := bs h
  refine j_sld hX hSX hv dL_law_932 ?_
  refine j_aloadX hX 0 dL_law_933 rfl rfl ?_
  refine j_iload_n hX 3 dL_law_934 rfl rfl ?_
  refine j_iconst hX dL_law_935 (rc rfl) ?_
  refine j_iadd hX dL_law_936 ?_
  obtain ⟨x170, hv, h⟩ := bs h
  refine j_sld hX hSX hv dL_law_937 ?_
  obtain ⟨r171, S172, h1, h⟩ := bd2_s h
  refine j_callVI hX mwX10_send miX10_send wd1637 cbX10 ty56 hyX10_send (by decide) (by decide) hcs dL_law_938 (s_X10_send (E := (fun z => cmb S168 z)) (S := Sm) hfl (lensM S168) h1) npX10_send rfl (Nat.le_of_ble_eq_true rfl) ?_
  refine j_icmp_eq hX (tgt := 1425) dL_law_941 (by decide) (fun hc => ?_) (fun hc => ?_)
  · rw [if_pos hc] at h
    refine j_iinc (L' := [(3, vI (w32 (v3 + 6))), (0, vX (.ref b)), (1, vR 0), (2, vR 56)]) hX 3 dL_law_1425 hnl (by decide) rfl rfl ?_
    refine j_goto hX (tgt := 18) dL_law_1428 (by decide) ?_
    refine j_sub [1, 2, 3, 0] rfl ?_
    exact ih _ _ _ h
  · rw [if_neg hc] at h
    refine j_iconst hX dL_law_944 (rc rfl) ?_
    cases h
theorem sl_law_c23 {X : K0} {B : Nat → Nat} {n k2 k3 b L : Nat} {xs : Nat → Int} {Q : State → Prop} (hX : Ctx X code "TelegramFeelingsLaw" 1400) (hfl : (gX X).2.2.2.2 = true) (hnl : X.2.2.2.2.2.2.2.2.2.2.2.2.2.2 = 4) (hcs : k2 ≤ X.2.2.2.1.cells ∧ k3 ≤ X.2.2.2.1.slots) (hR1 : ∀ (pc : Nat) (L : List (Nat × AV)) (M : Mem), decode code pc = .ok (.ireturn, 1) → JW X B n k2 k3 pc L [vI 1] M Q) (hSX : SX X b L xs) {rec : Int → Mem → Mem → Option Unit} (ih : ∀ (v3 : Int) (Sc Sm : Mem), rec v3 Sc Sm = some () → JW X B n k2 k3 18 [(0, vX (.ref b)), (1, vR 0), (2, vR 56), (3, vI (v3))] [] (cmb Sc Sm) Q) {v3 : Int} {Sc Sm : Mem} (h : g_law_c23 L xs rec v3 Sc Sm = some ()) : JW X B n k2 k3 946 [(0, vX (.ref b)), (1, vR 0), (2, vR 56), (3, vI (v3))] [] (cmb Sc Sm) Q := by
  unfold g_law_c23 at h
  refine j_aload_n hX 1 dL_law_946 rfl rfl ?_
  obtain ⟨r173, S174, h1, h⟩ := bd2_s h
  refine j_callVI hX mwX9_night miX9_night wd977 cbX9 ty0 hyX9_night (by decide) (by decide) hcs dL_law_947 (s_X9_night (E := (fun z => cmb z Sm)) (S := Sc) hfl (lensC Sm) h1) npX9_night rfl (Nat.le_of_ble_eq_true rfl) ?_
  refine j_aload_n hX 2 dL_law_950 rfl rfl ?_
  obtain ⟨r175, S176, h1, h⟩ := bd2_s h
  refine j_callVI hX mwX10_night miX10_night wd1641 cbX10 ty56 hyX10_night (by decide) (by decide) hcs dL_law_951 (s_X10_night (E := (fun z => cmb S174 z)) (S := Sm) hfl (lensM S174) h1) npX10_night rfl (Nat.le_of_ble_eq_true rfl) ?_
  refine j_icmp_eq hX (tgt := 1425) dL_law_954 (by decide) (fun hc => ?_) (fun hc => ?_)
  · rw [if_pos hc] at h
    refine j_iinc (L' := [(3, vI (w32 (v3 + 6))), (0, vX (.ref b)), (1, vR 0), (2, vR 56)]) hX 3 dL_law_1425 hnl (by decide) rfl rfl ?_
    refine j_goto hX (tgt := 18) dL_law_1428 (by decide) ?_
    refine j_sub [1, 2, 3, 0] rfl ?_
    exact ih _ _ _ h
  · rw [if_neg hc] at h
    refine j_iconst hX dL_law_957 (rc rfl) ?_
    cases h
theorem sl_law_c24 {X : K0} {B : Nat → Nat} {n k2 k3 b L : Nat} {xs : Nat → Int} {Q : State → Prop} (hX : Ctx X code "TelegramFeelingsLaw" 1400) (hfl : (gX X).2.2.2.2 = true) (hnl : X.2.2.2.2.2.2.2.2.2.2.2.2.2.2 = 4) (hcs : k2 ≤ X.2.2.2.1.cells ∧ k3 ≤ X.2.2.2.1.slots) (hR1 : ∀ (pc : Nat) (L : List (Nat × AV)) (M : Mem), decode code pc = .ok (.ireturn, 1) → JW X B n k2 k3 pc L [vI 1] M Q) (hSX : SX X b L xs) {rec : Int → Mem → Mem → Option Unit} (ih : ∀ (v3 : Int) (Sc Sm : Mem), rec v3 Sc Sm = some () → JW X B n k2 k3 18 [(0, vX (.ref b)), (1, vR 0), (2, vR 56), (3, vI (v3))] [] (cmb Sc Sm) Q) {v3 : Int} {Sc Sm : Mem} (h : g_law_c24 L xs rec v3 Sc Sm = some ()) : JW X B n k2 k3 959 [(0, vX (.ref b)), (1, vR 0), (2, vR 56), (3, vI (v3))] [] (cmb Sc Sm) Q := by
  unfold g_law_c24 at h
  refine j_aload_n hX 1 dL_law_959 rfl rfl ?_
  refine j_aloadX hX 0 dL_law_960 rfl rfl ?_
  refine j_iload_n hX 3 dL_law_961 rfl rfl ?_
  refine j_iconst hX dL_law_962 (rc rfl) ?_
  refine j_iadd hX dL_law_963 ?_
  obtain ⟨x177, hv, h⟩ := bs h
  refine j_sld hX hSX hv dL_law_964 ?_
  obtain ⟨r178, h1, h⟩ := bs h
  refine j_callVI hX mwX9_led miX9_led wd981 cbX9 ty0 hyX9_led (by decide) (by decide) hcs dL_law_965 (s_X9_led (E := (fun z => cmb z Sm)) (S := Sc) hfl (lensC Sm) h1) npX9_led rfl (Nat.le_of_ble_eq_true rfl) ?_
  refine j_aload_n hX 2 dL_law_968 rfl rfl ?_
  refine j_aloadX hX 0 dL_law_969 rfl rfl ?_
  refine j_iload_n hX 3 dL_law_970 rfl rfl ?_
  refine j_iconst hX dL_law_971 (rc rfl) ?_
  refine j_iadd hX dL_law_972 ?_
  obtain ⟨x179, hv, h⟩ := bs h
  refine j_sld hX hSX hv dL_law_973 ?_
  obtain ⟨r180, h1, h⟩ := bs h
  refine j_callVI hX mwX10_led miX10_led wd1645 cbX10 ty56 hyX10_led (by decide) (by decide) hcs dL_law_974 (s_X10_led (E := (fun z => cmb Sc z)) (S := Sm) hfl (lensM Sc) h1) npX10_led rfl (Nat.le_of_ble_eq_true rfl) ?_
  refine j_icmp_eq hX (tgt := 1425) dL_law_977 (by decide) (fun hc => ?_) (fun hc => ?_)
  · rw [if_pos hc] at h
    refine j_iinc (L' := [(3, vI (w32 (v3 + 6))), (0, vX (.ref b)), (1, vR 0), (2, vR 56)]) hX 3 dL_law_1425 hnl (by decide) rfl rfl ?_
    refine j_goto hX (tgt := 18) dL_law_1428 (by decide) ?_
    refine j_sub [1, 2, 3, 0] rfl ?_
    exact ih _ _ _ h
  · rw [if_neg hc] at h
    refine j_iconst hX dL_law_980 (rc rfl) ?_
    cases h
theorem sl_law_c25 {X : K0} {B : Nat → Nat} {n k2 k3 b L : Nat} {xs : Nat → Int} {Q : State → Prop} (hX : Ctx X code "TelegramFeelingsLaw" 1400) (hfl : (gX X).2.2.2.2 = true) (hnl : X.2.2.2.2.2.2.2.2.2.2.2.2.2.2 = 4) (hcs : k2 ≤ X.2.2.2.1.cells ∧ k3 ≤ X.2.2.2.1.slots) (hR1 : ∀ (pc : Nat) (L : List (Nat × AV)) (M : Mem), decode code pc = .ok (.ireturn, 1) → JW X B n k2 k3 pc L [vI 1] M Q) (hSX : SX X b L xs) {rec : Int → Mem → Mem → Option Unit} (ih : ∀ (v3 : Int) (Sc Sm : Mem), rec v3 Sc Sm = some () → JW X B n k2 k3 18 [(0, vX (.ref b)), (1, vR 0), (2, vR 56), (3, vI (v3))] [] (cmb Sc Sm) Q) {v3 : Int} {Sc Sm : Mem} (h : g_law_c25 L xs rec v3 Sc Sm = some ()) : JW X B n k2 k3 982 [(0, vX (.ref b)), (1, vR 0), (2, vR 56), (3, vI (v3))] [] (cmb Sc Sm) Q := by
  unfold g_law_c25 at h
  refine j_aload_n hX 1 dL_law_982 rfl rfl ?_
  obtain ⟨r181, S182, h1, h⟩ := bd2_s h
  refine j_callVI hX mwX9_image miX9_image wd985 cbX9 ty0 hyX9_image (by decide) (by decide) hcs dL_law_983 (s_X9_image (E := (fun z => cmb z Sm)) (S := Sc) hfl (lensC Sm) h1) npX9_image rfl (Nat.le_of_ble_eq_true rfl) ?_
  refine j_aload_n hX 2 dL_law_986 rfl rfl ?_
  obtain ⟨r183, S184, h1, h⟩ := bd2_s h
  refine j_callVI hX mwX10_image miX10_image wd1649 cbX10 ty56 hyX10_image (by decide) (by decide) hcs dL_law_987 (s_X10_image (E := (fun z => cmb S182 z)) (S := Sm) hfl (lensM S182) h1) npX10_image rfl (Nat.le_of_ble_eq_true rfl) ?_
  refine j_icmp_eq hX (tgt := 1425) dL_law_990 (by decide) (fun hc => ?_) (fun hc => ?_)
  · rw [if_pos hc] at h
    refine j_iinc (L' := [(3, vI (w32 (v3 + 6))), (0, vX (.ref b)), (1, vR 0), (2, vR 56)]) hX 3 dL_law_1425 hnl (by decide) rfl rfl ?_
    refine j_goto hX (tgt := 18) dL_law_1428 (by decide) ?_
    refine j_sub [1, 2, 3, 0] rfl ?_
    exact ih _ _ _ h
  · rw [if_neg hc] at h
    refine j_iconst hX dL_law_993 (rc rfl) ?_
    cases h
theorem sl_law_c26 {X : K0} {B : Nat → Nat} {n k2 k3 b L : Nat} {xs : Nat → Int} {Q : State → Prop} (hX : Ctx X code "TelegramFeelingsLaw" 1400) (hfl : (gX X).2.2.2.2 = true) (hnl : X.2.2.2.2.2.2.2.2.2.2.2.2.2.2 = 4) (hcs : k2 ≤ X.2.2.2.1.cells ∧ k3 ≤ X.2.2.2.1.slots) (hR1 : ∀ (pc : Nat) (L : List (Nat × AV)) (M : Mem), decode code pc = .ok (.ireturn, 1) → JW X B n k2 k3 pc L [vI 1] M Q) (hSX : SX X b L xs) {rec : Int → Mem → Mem → Option Unit} (ih : ∀ (v3 : Int) (Sc Sm : Mem), rec v3 Sc Sm = some () → JW X B n k2 k3 18 [(0, vX (.ref b)), (1, vR 0), (2, vR 56), (3, vI (v3))] [] (cmb Sc Sm) Q) {v3 : Int} {Sc Sm : Mem} (h : g_law_c26 L xs rec v3 Sc Sm = some ()) : JW X B n k2 k3 995 [(0, vX (.ref b)), (1, vR 0), (2, vR 56), (3, vI (v3))] [] (cmb Sc Sm) Q := by
  unfold g_law_c26 at h
  refine j_aload_n hX 1 dL_law_995 rfl rfl ?_
  obtain ⟨r185, S186, h1, h⟩ := bd2_s h
  refine j_callVI hX mwX9_back miX9_back wd994 cbX9 ty0 hyX9_back (by decide) (by decide) hcs dL_law_996 (s_X9_back (E := (fun z => cmb z Sm)) (S := Sc) hfl (lensC Sm) h1) npX9_back rfl (Nat.le_of_ble_eq_true rfl) ?_
  refine j_aload_n hX 2 dL_law_999 rfl rfl ?_
  obtain ⟨r187, S188, h1, h⟩ := bd2_s h
  refine j_callVI hX mwX10_back miX10_back wd1653 cbX10 ty56 hyX10_back (by decide) (by decide) hcs dL_law_1000 (s_X10_back (E := (fun z => cmb S186 z)) (S := Sm) hfl (lensM S186) h1) npX10_back rfl (Nat.le_of_ble_eq_true rfl) ?_
  refine j_icmp_eq hX (tgt := 1425) dL_law_1003 (by decide) (fun hc => ?_) (fun hc => ?_)
  · rw [if_pos hc] at h
    refine j_iinc (L' := [(3, vI (w32 (v3 + 6))), (0, vX (.ref b)), (1, vR 0), (2, vR 56)]) hX 3 dL_law_1425 hnl (by decide) rfl rfl ?_
    refine j_goto hX (tgt := 18) dL_law_1428 (by decide) ?_
    refine j_sub [1, 2, 3, 0] rfl ?_
    exact ih _ _ _ h
  · rw [if_neg hc] at h
    refine j_iconst hX dL_law_1006 (rc rfl) ?_
    cases h
theorem sl_law_c27 {X : K0} {B : Nat → Nat} {n k2 k3 b L : Nat} {xs : Nat → Int} {Q : State → Prop} (hX : Ctx X code "TelegramFeelingsLaw" 1400) (hfl : (gX X).2.2.2.2 = true) (hnl : X.2.2.2.2.2.2.2.2.2.2.2.2.2.2 = 4) (hcs : k2 ≤ X.2.2.2.1.cells ∧ k3 ≤ X.2.2.2.1.slots) (hR1 : ∀ (pc : Nat) (L : List (Nat × AV)) (M : Mem), decode code pc = .ok (.ireturn, 1) → JW X B n k2 k3 pc L [vI 1] M Q) (hSX : SX X b L xs) {rec : Int → Mem → Mem → Option Unit} (ih : ∀ (v3 : Int) (Sc Sm : Mem), rec v3 Sc Sm = some () → JW X B n k2 k3 18 [(0, vX (.ref b)), (1, vR 0), (2, vR 56), (3, vI (v3))] [] (cmb Sc Sm) Q) {v3 : Int} {Sc Sm : Mem} (h : g_law_c27 L xs rec v3 Sc Sm = some ()) : JW X B n k2 k3 1008 [(0, vX (.ref b)), (1, vR 0), (2, vR 56), (3, vI (v3))] [] (cmb Sc Sm) Q := by
  unfold g_law_c27 at h
  refine j_aload_n hX 1 dL_law_1008 rfl rfl ?_
  obtain ⟨r189, S190, h1, h⟩ := bd2_s h
  refine j_callVI hX mwX9_undo miX9_undo wd1003 cbX9 ty0 hyX9_undo (by decide) (by decide) hcs dL_law_1009 (s_X9_undo (E := (fun z => cmb z Sm)) (S := Sc) hfl (lensC Sm) h1) npX9_undo rfl (Nat.le_of_ble_eq_true rfl) ?_
  refine j_aload_n hX 2 dL_law_1012 rfl rfl ?_
  obtain ⟨r191, S192, h1, h⟩ := bd2_s h
  refine j_callVI hX mwX10_undo miX10_undo wd1345 cbX10 ty56 hyX10_undo (by decide) (by decide) hcs dL_law_1013 (s_X10_undo (E := (fun z => cmb S190 z)) (S := Sm) hfl (lensM S190) h1) npX10_undo rfl (Nat.le_of_ble_eq_true rfl) ?_
  refine j_icmp_eq hX (tgt := 1425) dL_law_1016 (by decide) (fun hc => ?_) (fun hc => ?_)
  · rw [if_pos hc] at h
    refine j_iinc (L' := [(3, vI (w32 (v3 + 6))), (0, vX (.ref b)), (1, vR 0), (2, vR 56)]) hX 3 dL_law_1425 hnl (by decide) rfl rfl ?_
    refine j_goto hX (tgt := 18) dL_law_1428 (by decide) ?_
    refine j_sub [1, 2, 3, 0] rfl ?_
    exact ih _ _ _ h
  · rw [if_neg hc] at h
    refine j_iconst hX dL_law_1019 (rc rfl) ?_
    cases h
theorem sl_law_c28 {X : K0} {B : Nat → Nat} {n k2 k3 b L : Nat} {xs : Nat → Int} {Q : State → Prop} (hX : Ctx X code "TelegramFeelingsLaw" 1400) (hfl : (gX X).2.2.2.2 = true) (hnl : X.2.2.2.2.2.2.2.2.2.2.2.2.2.2 = 4) (hcs : k2 ≤ X.2.2.2.1.cells ∧ k3 ≤ X.2.2.2.1.slots) (hR1 : ∀ (pc : Nat) (L : List (Nat × AV)) (M : Mem), decode code pc = .ok (.ireturn, 1) → JW X B n k2 k3 pc L [vI 1] M Q) (hSX : SX X b L xs) {rec : Int → Mem → Mem → Option Unit} (ih : ∀ (v3 : Int) (Sc Sm : Mem), rec v3 Sc Sm = some () → JW X B n k2 k3 18 [(0, vX (.ref b)), (1, vR 0), (2, vR 56), (3, vI (v3))] [] (cmb Sc Sm) Q) {v3 : Int} {Sc Sm : Mem} (h : g_law_c28 L xs rec v3 Sc Sm = some ()) : JW X B n k2 k3 1021 [(0, vX (.ref b)), (1, vR 0), (2, vR 56), (3, vI (v3))] [] (cmb Sc Sm) Q := by
  unfold g_law_c28 at h
  refine j_aload_n hX 1 dL_law_1021 rfl rfl ?_
  obtain ⟨r193, S194, h1, h⟩ := bd2_s h
  refine j_callVI hX mwX9_redo miX9_redo wd1012 cbX9 ty0 hyX9_redo (by decide) (by decide) hcs dL_law_1022 (s_X9_redo (E := (fun z => cmb z Sm)) (S := Sc) hfl (lensC Sm) h1) npX9_redo rfl (Nat.le_of_ble_eq_true rfl) ?_
  refine j_aload_n hX 2 dL_law_1025 rfl rfl ?_
  obtain ⟨r195, S196, h1, h⟩ := bd2_s h
  refine j_callVI hX mwX10_redo miX10_redo wd1353 cbX10 ty56 hyX10_redo (by decide) (by decide) hcs dL_law_1026 (s_X10_redo (E := (fun z => cmb S194 z)) (S := Sm) hfl (lensM S194) h1) npX10_redo rfl (Nat.le_of_ble_eq_true rfl) ?_
  refine j_icmp_eq hX (tgt := 1425) dL_law_1029 (by decide) (fun hc => ?_) (fun hc => ?_)
  · rw [if_pos hc] at h
    refine j_iinc (L' := [(3, vI (w32 (v3 + 6))), (0, vX (.ref b)), (1, vR 0), (2, vR 56)]) hX 3 dL_law_1425 hnl (by decide) rfl rfl ?_
    refine j_goto hX (tgt := 18) dL_law_1428 (by decide) ?_
    refine j_sub [1, 2, 3, 0] rfl ?_
    exact ih _ _ _ h
  · rw [if_neg hc] at h
    refine j_iconst hX dL_law_1032 (rc rfl) ?_
    cases h
theorem sl_law_c29 {X : K0} {B : Nat → Nat} {n k2 k3 b L : Nat} {xs : Nat → Int} {Q : State → Prop} (hX : Ctx X code "TelegramFeelingsLaw" 1400) (hfl : (gX X).2.2.2.2 = true) (hnl : X.2.2.2.2.2.2.2.2.2.2.2.2.2.2 = 4) (hcs : k2 ≤ X.2.2.2.1.cells ∧ k3 ≤ X.2.2.2.1.slots) (hR1 : ∀ (pc : Nat) (L : List (Nat × AV)) (M : Mem), decode code pc = .ok (.ireturn, 1) → JW X B n k2 k3 pc L [vI 1] M Q) (hSX : SX X b L xs) {rec : Int → Mem → Mem → Option Unit} (ih : ∀ (v3 : Int) (Sc Sm : Mem), rec v3 Sc Sm = some () → JW X B n k2 k3 18 [(0, vX (.ref b)), (1, vR 0), (2, vR 56), (3, vI (v3))] [] (cmb Sc Sm) Q) {v3 : Int} {Sc Sm : Mem} (h : g_law_c29 L xs rec v3 Sc Sm = some ()) : JW X B n k2 k3 1034 [(0, vX (.ref b)), (1, vR 0), (2, vR 56), (3, vI (v3))] [] (cmb Sc Sm) Q := by
  unfold g_law_c29 at h
  refine j_aload_n hX 1 dL_law_1034 rfl rfl ?_
  refine j_aloadX hX 0 dL_law_1035 rfl rfl ?_
  refine j_iload_n hX 3 dL_law_1036 rfl rfl ?_
  refine j_iconst hX dL_law_1037 (rc rfl) ?_
  refine j_iadd hX dL_law_1038 ?_
  obtain ⟨x197, hv, h⟩ := bs h
  refine j_sld hX hSX hv dL_law_1039 ?_
  obtain ⟨r198, S199, h1, h⟩ := bd2_s h
  refine j_callVI hX mwX9_body miX9_body wd1020 cbX9 ty0 hyX9_body (by decide) (by decide) hcs dL_law_1040 (s_X9_body (E := (fun z => cmb z Sm)) (S := Sc) hfl (lensC Sm) h1) npX9_body rfl (Nat.le_of_ble_eq_true rfl) ?_
  refine j_aload_n hX 2 dL_law_1043 rfl rfl ?_
  refine j_aloadX hX 0 dL_law_1044 rfl rfl ?_
  refine j_iload_n hX 3 dL_law_1045 rfl rfl ?_
  refine j_iconst hX dL_law_1046 (rc rfl) ?_
  refine j_iadd hX dL_law_1047 ?_
  obtain ⟨x200, hv, h⟩ := bs h
  refine j_sld hX hSX hv dL_law_1048 ?_
  obtain ⟨r201, S202, h1, h⟩ := bd2_s h
  refine j_callVI hX mwX10_body miX10_body wd1661 cbX10 ty56 hyX10_body (by decide) (by decide) hcs dL_law_1049 (s_X10_body (E := (fun z => cmb S199 z)) (S := Sm) hfl (lensM S199) h1) npX10_body rfl (Nat.le_of_ble_eq_true rfl) ?_
  refine j_icmp_eq hX (tgt := 1425) dL_law_1052 (by decide) (fun hc => ?_) (fun hc => ?_)
  · rw [if_pos hc] at h
    refine j_iinc (L' := [(3, vI (w32 (v3 + 6))), (0, vX (.ref b)), (1, vR 0), (2, vR 56)]) hX 3 dL_law_1425 hnl (by decide) rfl rfl ?_
    refine j_goto hX (tgt := 18) dL_law_1428 (by decide) ?_
    refine j_sub [1, 2, 3, 0] rfl ?_
    exact ih _ _ _ h
  · rw [if_neg hc] at h
    refine j_iconst hX dL_law_1055 (rc rfl) ?_
    cases h
theorem sl_law_c30 {X : K0} {B : Nat → Nat} {n k2 k3 b L : Nat} {xs : Nat → Int} {Q : State → Prop} (hX : Ctx X code "TelegramFeelingsLaw" 1400) (hfl : (gX X).2.2.2.2 = true) (hnl : X.2.2.2.2.2.2.2.2.2.2.2.2.2.2 = 4) (hcs : k2 ≤ X.2.2.2.1.cells ∧ k3 ≤ X.2.2.2.1.slots) (hR1 : ∀ (pc : Nat) (L : List (Nat × AV)) (M : Mem), decode code pc = .ok (.ireturn, 1) → JW X B n k2 k3 pc L [vI 1] M Q) (hSX : SX X b L xs) {rec : Int → Mem → Mem → Option Unit} (ih : ∀ (v3 : Int) (Sc Sm : Mem), rec v3 Sc Sm = some () → JW X B n k2 k3 18 [(0, vX (.ref b)), (1, vR 0), (2, vR 56), (3, vI (v3))] [] (cmb Sc Sm) Q) {v3 : Int} {Sc Sm : Mem} (h : g_law_c30 L xs rec v3 Sc Sm = some ()) : JW X B n k2 k3 1057 [(0, vX (.ref b)), (1, vR 0), (2, vR 56), (3, vI (v3))] [] (cmb Sc Sm) Q := by
  unfold g_law_c30 at h
  refine j_aload_n hX 1 dL_law_1057 rfl rfl ?_
  refine j_aloadX hX 0 dL_law_1058 rfl rfl ?_
  refine j_iload_n hX 3 dL_law_1059 rfl rfl ?_
  refine j_iconst hX dL_law_1060 (rc rfl) ?_
  refine j_iadd hX dL_law_1061 ?_
  obtain ⟨x203, hv, h⟩ := bs h
  refine j_sld hX hSX hv dL_law_1062 ?_
  refine j_aloadX hX 0 dL_law_1063 rfl rfl ?_
  refine j_iload_n hX 3 dL_law_1064 rfl rfl ?_
  refine j_iconst hX dL_law_1065 (rc rfl) ?_
  refine j_iadd hX dL_law_1066 ?_
  obtain ⟨x204, hv, h⟩ := bs h
  refine j_sld hX hSX hv dL_law_1067 ?_
  refine j_aloadX hX 0 dL_law_1068 rfl rfl ?_
  refine j_iload_n hX 3 dL_law_1069 rfl rfl ?_
  refine j_iconst hX dL_law_1070 (rc rfl) ?_
  refine j_iadd hX dL_law_1071 ?_
  obtain ⟨x205, hv, h⟩ := bs h
  refine j_sld hX hSX hv dL_law_1072 ?_
  obtain ⟨r206, S207, h1, h⟩ := bd2_s h
  refine j_callVI hX mwX9_act miX9_act wd1028 cbX9 ty0 hyX9_act (by decide) (by decide) hcs dL_law_1073 (s_X9_act (E := (fun z => cmb z Sm)) (S := Sc) hfl (lensC Sm) h1) npX9_act rfl (Nat.le_of_ble_eq_true rfl) ?_
  refine j_aload_n hX 2 dL_law_1076 rfl rfl ?_
  refine j_aloadX hX 0 dL_law_1077 rfl rfl ?_
  refine j_iload_n hX 3 dL_law_1078 rfl rfl ?_
  refine j_iconst hX dL_law_1079 (rc rfl) ?_
  refine j_iadd hX dL_law_1080 ?_
  obtain ⟨x208, hv, h⟩ := bs h
  refine j_sld hX hSX hv dL_law_1081 ?_
  refine j_aloadX hX 0 dL_law_1082 rfl rfl ?_
  refine j_iload_n hX 3 dL_law_1083 rfl rfl ?_
  refine j_iconst hX dL_law_1084 (rc rfl) ?_
  refine j_iadd hX dL_law_1085 ?_
  obtain ⟨x209, hv, h⟩ := bs h
  refine j_sld hX hSX hv dL_law_1086 ?_
  refine j_aloadX hX 0 dL_law_1087 rfl rfl ?_
  refine j_iload_n hX 3 dL_law_1088 rfl rfl ?_
  refine j_iconst hX dL_law_1089 (rc rfl) ?_
  refine j_iadd hX dL_law_1090 ?_
  obtain ⟨x210, hv, h⟩ := bs h
  refine j_sld hX hSX hv dL_law_1091 ?_
  obtain ⟨r211, S212, h1, h⟩ := bd2_s h
  refine j_callVI hX mwX10_act miX10_act wd1665 cbX10 ty56 hyX10_act (by decide) (by decide) hcs dL_law_1092 (s_X10_act (E := (fun z => cmb S207 z)) (S := Sm) hfl (lensM S207) h1) npX10_act rfl (Nat.le_of_ble_eq_true rfl) ?_
  refine j_icmp_eq hX (tgt := 1425) dL_law_1095 (by decide) (fun hc => ?_) (fun hc => ?_)
  · rw [if_pos hc] at h
    refine j_iinc (L' := [(3, vI (w32 (v3 + 6))), (0, vX (.ref b)), (1, vR 0), (2, vR 56)]) hX 3 dL_law_1425 hnl (by decide) rfl rfl ?_
    refine j_goto hX (tgt := 18) dL_law_1428 (by decide) ?_
    refine j_sub [1, 2, 3, 0] rfl ?_
    exact ih _ _ _ h
  · rw [if_neg hc] at h
    refine j_iconst hX dL_law_1098 (rc rfl) ?_
    cases h
theorem sl_law_c31 {X : K0} {B : Nat → Nat} {n k2 k3 b L : Nat} {xs : Nat → Int} {Q : State → Prop} (hX : Ctx X code "TelegramFeelingsLaw" 1400) (hfl : (gX X).2.2.2.2 = true) (hnl : X.2.2.2.2.2.2.2.2.2.2.2.2.2.2 = 4) (hcs : k2 ≤ X.2.2.2.1.cells ∧ k3 ≤ X.2.2.2.1.slots) (hR1 : ∀ (pc : Nat) (L : List (Nat × AV)) (M : Mem), decode code pc = .ok (.ireturn, 1) → JW X B n k2 k3 pc L [vI 1] M Q) (hSX : SX X b L xs) {rec : Int → Mem → Mem → Option Unit} (ih : ∀ (v3 : Int) (Sc Sm : Mem), rec v3 Sc Sm = some () → JW X B n k2 k3 18 [(0, vX (.ref b)), (1, vR 0), (2, vR 56), (3, vI (v3))] [] (cmb Sc Sm) Q) {v3 : Int} {Sc Sm : Mem} (h : g_law_c31 L xs rec v3 Sc Sm = some ()) : JW X B n k2 k3 1100 [(0, vX (.ref b)), (1, vR 0), (2, vR 56), (3, vI (v3))] [] (cmb Sc Sm) Q := by
  unfold g_law_c31 at h
  refine j_aload_n hX 1 dL_law_1100 rfl rfl ?_
  refine j_aloadX hX 0 dL_law_1101 rfl rfl ?_
  refine j_iload_n hX 3 dL_law_1102 rfl rfl ?_
  refine j_iconst hX dL_law_1103 (rc rfl) ?_
  refine j_iadd hX dL_law_1104 ?_
  obtain ⟨x213, hv, h⟩ := bs h
  refine j_sld hX hSX hv dL_law_1105 ?_
  obtain ⟨r214, h1, h⟩ := bs h
  refine j_callVI hX mwX9_trace miX9_trace wd1065 cbX9 ty0 hyX9_trace (by decide) (by decide) hcs dL_law_1106 (s_X9_trace (E := (fun z => cmb z Sm)) (S := Sc) hfl (lensC Sm) h1) npX9_trace rfl (Nat.le_of_ble_eq_true rfl) ?_
  refine j_aload_n hX 2 dL_law_1109 rfl rfl ?_
  refine j_aloadX hX 0 dL_law_1110 rfl rfl ?_
  refine j_iload_n hX 3 dL_law_1111 rfl rfl ?_
  refine j_iconst hX dL_law_1112 (rc rfl) ?_
  refine j_iadd hX dL_law_1113 ?_
  obtain ⟨x215, hv, h⟩ := bs h
  refine j_sld hX hSX hv dL_law_1114 ?_
  obtain ⟨r216, h1, h⟩ := bs h
  refine j_callVI hX mwX10_trace miX10_trace wd1657 cbX10 ty56 hyX10_trace (by decide) (by decide) hcs dL_law_1115 (s_X10_trace (E := (fun z => cmb Sc z)) (S := Sm) hfl (lensM Sc) h1) npX10_trace rfl (Nat.le_of_ble_eq_true rfl) ?_
  refine j_icmp_eq hX (tgt := 1425) dL_law_1118 (by decide) (fun hc => ?_) (fun hc => ?_)
  · rw [if_pos hc] at h
    refine j_iinc (L' := [(3, vI (w32 (v3 + 6))), (0, vX (.ref b)), (1, vR 0), (2, vR 56)]) hX 3 dL_law_1425 hnl (by decide) rfl rfl ?_
    refine j_goto hX (tgt := 18) dL_law_1428 (by decide) ?_
    refine j_sub [1, 2, 3, 0] rfl ?_
    exact ih _ _ _ h
  · rw [if_neg hc] at h
    refine j_iconst hX dL_law_1121 (rc rfl) ?_
    cases h
theorem sl_law_c32 {X : K0} {B : Nat → Nat} {n k2 k3 b L : Nat} {xs : Nat → Int} {Q : State → Prop} (hX : Ctx X code "TelegramFeelingsLaw" 1400) (hfl : (gX X).2.2.2.2 = true) (hnl : X.2.2.2.2.2.2.2.2.2.2.2.2.2.2 = 4) (hcs : k2 ≤ X.2.2.2.1.cells ∧ k3 ≤ X.2.2.2.1.slots) (hR1 : ∀ (pc : Nat) (L : List (Nat × AV)) (M : Mem), decode code pc = .ok (.ireturn, 1) → JW X B n k2 k3 pc L [vI 1] M Q) (hSX : SX X b L xs) {rec : Int → Mem → Mem → Option Unit} (ih : ∀ (v3 : Int) (Sc Sm : Mem), rec v3 Sc Sm = some () → JW X B n k2 k3 18 [(0, vX (.ref b)), (1, vR 0), (2, vR 56), (3, vI (v3))] [] (cmb Sc Sm) Q) {v3 : Int} {Sc Sm : Mem} (h : g_law_c32 L xs rec v3 Sc Sm = some ()) : JW X B n k2 k3 1123 [(0, vX (.ref b)), (1, vR 0), (2, vR 56), (3, vI (v3))] [] (cmb Sc Sm) Q := by
  unfold g_law_c32 at h
  refine j_aload_n hX 1 dL_law_1123 rfl rfl ?_
  refine j_aloadX hX 0 dL_law_1124 rfl rfl ?_
  refine j_iload_n hX 3 dL_law_1125 rfl rfl ?_
  refine j_iconst hX dL_law_1126 (rc rfl) ?_
  refine j_iadd hX dL_law_1127 ?_
  obtain ⟨x217, hv, h⟩ := bs h
  refine j_sld hX hSX hv dL_law_1128 ?_
  refine j_aloadX hX 0 dL_law_1129 rfl rfl ?_
  refine j_iload_n hX 3 dL_law_1130 rfl rfl ?_
  refine j_iconst hX dL_law_1131 (rc rfl) ?_
  refine j_iadd hX dL_law_1132 ?_
  obtain ⟨x218, hv, h⟩ := bs h
  refine j_sld hX hSX hv dL_law_1133 ?_
  obtain ⟨r219, S220, h1, h⟩ := bd2_s h
  refine j_callVI hX mwX9_keep miX9_keep wd1073 cbX9 ty0 hyX9_keep (by decide) (by decide) hcs dL_law_1134 (s_X9_keep (E := (fun z => cmb z Sm)) (S := Sc) hfl (lensC Sm) h1) npX9_keep rfl (Nat.le_of_ble_eq_true rfl) ?_
  refine j_aload_n hX 2 dL_law_1137 rfl rfl ?_
  refine j_aloadX hX 0 dL_law_1138 rfl rfl ?_
  refine j_iload_n hX 3 dL_law_1139 rfl rfl ?_
  refine j_iconst hX dL_law_1140 (rc rfl) ?_
  refine j_iadd hX dL_law_1141 ?_
  obtain ⟨x221, hv, h⟩ := bs h
  refine j_sld hX hSX hv dL_law_1142 ?_
  refine j_aloadX hX 0 dL_law_1143 rfl rfl ?_
  refine j_iload_n hX 3 dL_law_1144 rfl rfl ?_
  refine j_iconst hX dL_law_1145 (rc rfl) ?_
  refine j_iadd hX dL_law_1146 ?_
  obtain ⟨x222, hv, h⟩ := bs h
  refine j_sld hX hSX hv dL_law_1147 ?_
  obtain ⟨r223, S224, h1, h⟩ := bd2_s h
  refine j_callVI hX mwX10_keep miX10_keep wd1728 cbX10 ty56 hyX10_keep (by decide) (by decide) hcs dL_law_1148 (s_X10_keep (E := (fun z => cmb S220 z)) (S := Sm) hfl (lensM S220) h1) npX10_keep rfl (Nat.le_of_ble_eq_true rfl) ?_
  refine j_icmp_eq hX (tgt := 1425) dL_law_1151 (by decide) (fun hc => ?_) (fun hc => ?_)
  · rw [if_pos hc] at h
    refine j_iinc (L' := [(3, vI (w32 (v3 + 6))), (0, vX (.ref b)), (1, vR 0), (2, vR 56)]) hX 3 dL_law_1425 hnl (by decide) rfl rfl ?_
    refine j_goto hX (tgt := 18) dL_law_1428 (by decide) ?_
    refine j_sub [1, 2, 3, 0] rfl ?_
    exact ih _ _ _ h
  · rw [if_neg hc] at h
    refine j_iconst hX dL_law_1154 (rc rfl) ?_
    cases h
theorem sl_law_c33 {X : K0} {B : Nat → Nat} {n k2 k3 b L : Nat} {xs : Nat → Int} {Q : State → Prop} (hX : Ctx X code "TelegramFeelingsLaw" 1400) (hfl : (gX X).2.2.2.2 = true) (hnl : X.2.2.2.2.2.2.2.2.2.2.2.2.2.2 = 4) (hcs : k2 ≤ X.2.2.2.1.cells ∧ k3 ≤ X.2.2.2.1.slots) (hR1 : ∀ (pc : Nat) (L : List (Nat × AV)) (M : Mem), decode code pc = .ok (.ireturn, 1) → JW X B n k2 k3 pc L [vI 1] M Q) (hSX : SX X b L xs) {rec : Int → Mem → Mem → Option Unit} (ih : ∀ (v3 : Int) (Sc Sm : Mem), rec v3 Sc Sm = some () → JW X B n k2 k3 18 [(0, vX (.ref b)), (1, vR 0), (2, vR 56), (3, vI (v3))] [] (cmb Sc Sm) Q) {v3 : Int} {Sc Sm : Mem} (h : g_law_c33 L xs rec v3 Sc Sm = some ()) : JW X B n k2 k3 1156 [(0, vX (.ref b)), (1, vR 0), (2, vR 56), (3, vI (v3))] [] (cmb Sc Sm) Q := by
  unfold g_law_c33 at h
  refine j_aload_n hX 1 dL_law_1156 rfl rfl ?_
  refine j_aloadX hX 0 dL_law_1157 rfl rfl ?_
  refine j_iload_n hX 3 dL_law_1158 rfl rfl ?_
  refine j_iconst hX dL_law_1159 (rc rfl) ?_
  refine j_iadd hX dL_law_1160 ?_
  obtain ⟨x225, hv, h⟩ := bs h
  refine j_sld hX hSX hv dL_law_1161 ?_
  refine j_aloadX hX 0 dL_law_1162 rfl rfl ?_
  refine j_iload_n hX 3 dL_law_1163 rfl rfl ?_
  refine j_iconst hX dL_law_1164 (rc rfl) ?_
  refine j_iadd hX dL_law_1165 ?_
  obtain ⟨x226, hv, h⟩ := bs h
  refine j_sld hX hSX hv dL_law_1166 ?_
  refine j_aloadX hX 0 dL_law_1167 rfl rfl ?_
  refine j_iload_n hX 3 dL_law_1168 rfl rfl ?_
  refine j_iconst hX dL_law_1169 (rc rfl) ?_
  refine j_iadd hX dL_law_1170 ?_
  obtain ⟨x227, hv, h⟩ := bs h
  refine j_sld hX hSX hv dL_law_1171 ?_
  obtain ⟨r228, S229, h1, h⟩ := bd2_s h
  refine j_callVI hX mwX9_row miX9_row wd1082 cbX9 ty0 hyX9_row (by decide) (by decide) hcs dL_law_1172 (s_X9_row (E := (fun z => cmb z Sm)) (S := Sc) hfl (lensC Sm) h1) npX9_row rfl (Nat.le_of_ble_eq_true rfl) ?_
  refine j_aload_n hX 2 dL_law_1175 rfl rfl ?_
  refine j_aloadX hX 0 dL_law_1176 rfl rfl ?_
  refine j_iload_n hX 3 dL_law_1177 rfl rfl ?_
  refine j_iconst hX dL_law_1178 (rc rfl) ?_
  refine j_iadd hX dL_law_1179 ?_
  obtain ⟨x230, hv, h⟩ := bs h
  refine j_sld hX hSX hv dL_law_1180 ?_
  refine j_aloadX hX 0 dL_law_1181 rfl rfl ?_
  refine j_iload_n hX 3 dL_law_1182 rfl rfl ?_
  refine j_iconst hX dL_law_1183 (rc rfl) ?_
  refine j_iadd hX dL_law_1184 ?_
  obtain ⟨x231, hv, h⟩ := bs h
  refine j_sld hX hSX hv dL_law_1185 ?_
  refine j_aloadX hX 0 dL_law_1186 rfl rfl ?_
  refine j_iload_n hX 3 dL_law_1187 rfl rfl ?_
  refine j_iconst hX dL_law_1188 (rc rfl) ?_
  refine j_iadd hX dL_law_1189 ?_
  obtain ⟨x232, hv, h⟩ := bs h
  refine j_sld hX hSX hv dL_law_1190 ?_
  obtain ⟨r233, S234, h1, h⟩ := bd2_s h
  refine j_callVI hX mwX10_row miX10_row wd1732 cbX10 ty56 hyX10_row (by decide) (by decide) hcs dL_law_1191 (s_X10_row (E := (fun z => cmb S229 z)) (S := Sm) hfl (lensM S229) h1) npX10_row rfl (Nat.le_of_ble_eq_true rfl) ?_
  refine j_icmp_eq hX (tgt := 1425) dL_law_1194 (by decide) (fun hc => ?_) (fun hc => ?_)
  · rw [if_pos hc] at h
    refine j_iinc (L' := [(3, vI (w32 (v3 + 6))), (0, vX (.ref b)), (1, vR 0), (2, vR 56)]) hX 3 dL_law_1425 hnl (by decide) rfl rfl ?_
    refine j_goto hX (tgt := 18) dL_law_1428 (by decide) ?_
    refine j_sub [1, 2, 3, 0] rfl ?_
    exact ih _ _ _ h
  · rw [if_neg hc] at h
    refine j_iconst hX dL_law_1197 (rc rfl) ?_
    cases h
theorem sl_law_c34 {X : K0} {B : Nat → Nat} {n k2 k3 b L : Nat} {xs : Nat → Int} {Q : State → Prop} (hX : Ctx X code "TelegramFeelingsLaw" 1400) (hfl : (gX X).2.2.2.2 = true) (hnl : X.2.2.2.2.2.2.2.2.2.2.2.2.2.2 = 4) (hcs : k2 ≤ X.2.2.2.1.cells ∧ k3 ≤ X.2.2.2.1.slots) (hR1 : ∀ (pc : Nat) (L : List (Nat × AV)) (M : Mem), decode code pc = .ok (.ireturn, 1) → JW X B n k2 k3 pc L [vI 1] M Q) (hSX : SX X b L xs) {rec : Int → Mem → Mem → Option Unit} (ih : ∀ (v3 : Int) (Sc Sm : Mem), rec v3 Sc Sm = some () → JW X B n k2 k3 18 [(0, vX (.ref b)), (1, vR 0), (2, vR 56), (3, vI (v3))] [] (cmb Sc Sm) Q) {v3 : Int} {Sc Sm : Mem} (h : g_law_c34 L xs rec v3 Sc Sm = some ()) : JW X B n k2 k3 1199 [(0, vX (.ref b)), (1, vR 0), (2, vR 56), (3, vI (v3))] [] (cmb Sc Sm) Q := by
  unfold g_law_c34 at h
  refine j_aload_n hX 1 dL_law_1199 rfl rfl ?_
  refine j_aloadX hX 0 dL_law_1200 rfl rfl ?_
  refine j_iload_n hX 3 dL_law_1201 rfl rfl ?_
  refine j_iconst hX dL_law_1202 (rc rfl) ?_
  refine j_iadd hX dL_law_1203 ?_
  obtain ⟨x235, hv, h⟩ := bs h
  refine j_sld hX hSX hv dL_law_1204 ?_
  refine j_aloadX hX 0 dL_law_1205 rfl rfl ?_
  refine j_iload_n hX 3 dL_law_1206 rfl rfl ?_
  refine j_iconst hX dL_law_1207 (rc rfl) ?_
  refine j_iadd hX dL_law_1208 ?_
  obtain ⟨x236, hv, h⟩ := bs h
  refine j_sld hX hSX hv dL_law_1209 ?_
  refine j_aloadX hX 0 dL_law_1210 rfl rfl ?_
  refine j_iload_n hX 3 dL_law_1211 rfl rfl ?_
  refine j_iconst hX dL_law_1212 (rc rfl) ?_
  refine j_iadd hX dL_law_1213 ?_
  obtain ⟨x237, hv, h⟩ := bs h
  refine j_sld hX hSX hv dL_law_1214 ?_
  refine j_i2l hX dL_law_1215 ?_
  refine j_bipush hX dL_law_1216 (rc rfl) (by decide) ?_
  refine j_lshl hX dL_law_1218 ?_
  refine j_aloadX hX 0 dL_law_1219 rfl rfl ?_
  refine j_iload_n hX 3 dL_law_1220 rfl rfl ?_
  refine j_iconst hX dL_law_1221 (rc rfl) ?_
  refine j_iadd hX dL_law_1222 ?_
  obtain ⟨x238, hv, h⟩ := bs h
  refine j_sld hX hSX hv dL_law_1223 ?_
  refine j_i2l hX dL_law_1224 ?_
  refine j_ldc2 (z := 4294967295) hX wd1756 (by decide) dL_law_1225 (rcl rfl) ?_
  refine j_land hX dL_law_1228 ?_
  refine j_lor hX dL_law_1229 ?_
  obtain ⟨r239, S240, h1, h⟩ := bd2_s h
  refine j_callVI hX mwX9_put miX9_put wd1091 cbX9 ty0 hyX9_put (by decide) (by decide) hcs dL_law_1230 (s_X9_put (E := (fun z => cmb z Sm)) (S := Sc) hfl (lensC Sm) h1) npX9_put rfl (Nat.le_of_ble_eq_true rfl) ?_
  refine j_aload_n hX 2 dL_law_1233 rfl rfl ?_
  refine j_aloadX hX 0 dL_law_1234 rfl rfl ?_
  refine j_iload_n hX 3 dL_law_1235 rfl rfl ?_
  refine j_iconst hX dL_law_1236 (rc rfl) ?_
  refine j_iadd hX dL_law_1237 ?_
  obtain ⟨x241, hv, h⟩ := bs h
  refine j_sld hX hSX hv dL_law_1238 ?_
  refine j_aloadX hX 0 dL_law_1239 rfl rfl ?_
  refine j_iload_n hX 3 dL_law_1240 rfl rfl ?_
  refine j_iconst hX dL_law_1241 (rc rfl) ?_
  refine j_iadd hX dL_law_1242 ?_
  obtain ⟨x242, hv, h⟩ := bs h
  refine j_sld hX hSX hv dL_law_1243 ?_
  refine j_aloadX hX 0 dL_law_1244 rfl rfl ?_
  refine j_iload_n hX 3 dL_law_1245 rfl rfl ?_
  refine j_iconst hX dL_law_1246 (rc rfl) ?_
  refine j_iadd hX dL_law_1247 ?_
  obtain ⟨x243, hv, h⟩ := bs h
  refine j_sld hX hSX hv dL_law_1248 ?_
  refine j_i2l hX dL_law_1249 ?_
  refine j_bipush hX dL_law_1250 (rc rfl) (by decide) ?_
  refine j_lshl hX dL_law_1252 ?_
  refine j_aloadX hX 0 dL_law_1253 rfl rfl ?_
  refine j_iload_n hX 3 dL_law_1254 rfl rfl ?_
  refine j_iconst hX dL_law_1255 (rc rfl) ?_
  refine j_iadd hX dL_law_1256 ?_
  obtain ⟨x244, hv, h⟩ := bs h
  refine j_sld hX hSX hv dL_law_1257 ?_
  refine j_i2l hX dL_law_1258 ?_
  refine j_ldc2 (z := 4294967295) hX wd1756 (by decide) dL_law_1259 (rcl rfl) ?_
  refine j_land hX dL_law_1262 ?_
  refine j_lor hX dL_law_1263 ?_
  obtain ⟨r245, S246, h1, h⟩ := bd2_s h
  refine j_callVI hX mwX10_put miX10_put wd1736 cbX10 ty56 hyX10_put (by decide) (by decide) hcs dL_law_1264 (s_X10_put (E := (fun z => cmb S240 z)) (S := Sm) hfl (lensM S240) h1) npX10_put rfl (Nat.le_of_ble_eq_true rfl) ?_
  refine j_icmp_eq hX (tgt := 1425) dL_law_1267 (by decide) (fun hc => ?_) (fun hc => ?_)
  · rw [if_pos hc] at h
    refine j_iinc (L' := [(3, vI (w32 (v3 + 6))), (0, vX (.ref b)), (1, vR 0), (2, vR 56)]) hX 3 dL_law_1425 hnl (by decide) rfl rfl ?_
    refine j_goto hX (tgt := 18) dL_law_1428 (by decide) ?_
    refine j_sub [1, 2, 3, 0] rfl ?_
    exact ih _ _ _ h
  · rw [if_neg hc] at h
    refine j_iconst hX dL_law_1270 (rc rfl) ?_
    cases h
theorem sl_law_c35 {X : K0} {B : Nat → Nat} {n k2 k3 b L : Nat} {xs : Nat → Int} {Q : State → Prop} (hX : Ctx X code "TelegramFeelingsLaw" 1400) (hfl : (gX X).2.2.2.2 = true) (hnl : X.2.2.2.2.2.2.2.2.2.2.2.2.2.2 = 4) (hcs : k2 ≤ X.2.2.2.1.cells ∧ k3 ≤ X.2.2.2.1.slots) (hR1 : ∀ (pc : Nat) (L : List (Nat × AV)) (M : Mem), decode code pc = .ok (.ireturn, 1) → JW X B n k2 k3 pc L [vI 1] M Q) (hSX : SX X b L xs) {rec : Int → Mem → Mem → Option Unit} (ih : ∀ (v3 : Int) (Sc Sm : Mem), rec v3 Sc Sm = some () → JW X B n k2 k3 18 [(0, vX (.ref b)), (1, vR 0), (2, vR 56), (3, vI (v3))] [] (cmb Sc Sm) Q) {v3 : Int} {Sc Sm : Mem} (h : g_law_c35 L xs rec v3 Sc Sm = some ()) : JW X B n k2 k3 1272 [(0, vX (.ref b)), (1, vR 0), (2, vR 56), (3, vI (v3))] [] (cmb Sc Sm) Q := by
  unfold g_law_c35 at h
  refine j_aload_n hX 1 dL_law_1272 rfl rfl ?_
  refine j_aloadX hX 0 dL_law_1273 rfl rfl ?_
  refine j_iload_n hX 3 dL_law_1274 rfl rfl ?_
  refine j_iconst hX dL_law_1275 (rc rfl) ?_
  refine j_iadd hX dL_law_1276 ?_
  obtain ⟨x247, hv, h⟩ := bs h
  refine j_sld hX hSX hv dL_law_1277 ?_
  refine j_aloadX hX 0 dL_law_1278 rfl rfl ?_
  refine j_iload_n hX 3 dL_law_1279 rfl rfl ?_
  refine j_iconst hX dL_law_1280 (rc rfl) ?_
  refine j_iadd hX dL_law_1281 ?_
  obtain ⟨x248, hv, h⟩ := bs h
  refine j_sld hX hSX hv dL_law_1282 ?_
  obtain ⟨r249, h1, h⟩ := bs h
  refine j_callVL hX mwX9_element miX9_element wd1106 cbX9 ty0 hyX9_element (by decide) (by decide) hcs dL_law_1283 (s_X9_element (E := (fun z => cmb z Sm)) (S := Sc) hfl (lensC Sm) h1) npX9_element rfl (Nat.le_of_ble_eq_true rfl) ?_
  refine j_aload_n hX 2 dL_law_1286 rfl rfl ?_
  refine j_aloadX hX 0 dL_law_1287 rfl rfl ?_
  refine j_iload_n hX 3 dL_law_1288 rfl rfl ?_
  refine j_iconst hX dL_law_1289 (rc rfl) ?_
  refine j_iadd hX dL_law_1290 ?_
  obtain ⟨x250, hv, h⟩ := bs h
  refine j_sld hX hSX hv dL_law_1291 ?_
  refine j_aloadX hX 0 dL_law_1292 rfl rfl ?_
  refine j_iload_n hX 3 dL_law_1293 rfl rfl ?_
  refine j_iconst hX dL_law_1294 (rc rfl) ?_
  refine j_iadd hX dL_law_1295 ?_
  obtain ⟨x251, hv, h⟩ := bs h
  refine j_sld hX hSX hv dL_law_1296 ?_
  obtain ⟨r252, h1, h⟩ := bs h
  refine j_callVL hX mwX10_element miX10_element wd1744 cbX10 ty56 hyX10_element (by decide) (by decide) hcs dL_law_1297 (s_X10_element (E := (fun z => cmb Sc z)) (S := Sm) hfl (lensM Sc) h1) npX10_element rfl (Nat.le_of_ble_eq_true rfl) ?_
  refine j_lcmp hX dL_law_1300 ?_
  refine j_if_eq hX (tgt := 1425) dL_law_1301 (by decide) (fun hc => ?_) (fun hc => ?_)
  · rw [if_pos hc] at h
    refine j_iinc (L' := [(3, vI (w32 (v3 + 6))), (0, vX (.ref b)), (1, vR 0), (2, vR 56)]) hX 3 dL_law_1425 hnl (by decide) rfl rfl ?_
    refine j_goto hX (tgt := 18) dL_law_1428 (by decide) ?_
    refine j_sub [1, 2, 3, 0] rfl ?_
    exact ih _ _ _ h
  · rw [if_neg hc] at h
    refine j_iconst hX dL_law_1304 (rc rfl) ?_
    cases h
theorem sl_law_c36 {X : K0} {B : Nat → Nat} {n k2 k3 b L : Nat} {xs : Nat → Int} {Q : State → Prop} (hX : Ctx X code "TelegramFeelingsLaw" 1400) (hfl : (gX X).2.2.2.2 = true) (hnl : X.2.2.2.2.2.2.2.2.2.2.2.2.2.2 = 4) (hcs : k2 ≤ X.2.2.2.1.cells ∧ k3 ≤ X.2.2.2.1.slots) (hR1 : ∀ (pc : Nat) (L : List (Nat × AV)) (M : Mem), decode code pc = .ok (.ireturn, 1) → JW X B n k2 k3 pc L [vI 1] M Q) (hSX : SX X b L xs) {rec : Int → Mem → Mem → Option Unit} (ih : ∀ (v3 : Int) (Sc Sm : Mem), rec v3 Sc Sm = some () → JW X B n k2 k3 18 [(0, vX (.ref b)), (1, vR 0), (2, vR 56), (3, vI (v3))] [] (cmb Sc Sm) Q) {v3 : Int} {Sc Sm : Mem} (h : g_law_c36 L xs rec v3 Sc Sm = some ()) : JW X B n k2 k3 1306 [(0, vX (.ref b)), (1, vR 0), (2, vR 56), (3, vI (v3))] [] (cmb Sc Sm) Q := by
  unfold g_law_c36 at h
  refine j_aload_n hX 1 dL_law_1306 rfl rfl ?_
  refine j_aloadX hX 0 dL_law_1307 rfl rfl ?_
  refine j_iload_n hX 3 dL_law_1308 rfl rfl ?_
  refine j_iconst hX dL_law_1309 (rc rfl) ?_
  refine j_iadd hX dL_law_1310 ?_
  obtain ⟨x253, hv, h⟩ := bs h
  refine j_sld hX hSX hv dL_law_1311 ?_
  refine j_aloadX hX 0 dL_law_1312 rfl rfl ?_
  refine j_iload_n hX 3 dL_law_1313 rfl rfl ?_
  refine j_iconst hX dL_law_1314 (rc rfl) ?_
  refine j_iadd hX dL_law_1315 ?_
  obtain ⟨x254, hv, h⟩ := bs h
  refine j_sld hX hSX hv dL_law_1316 ?_
  refine j_aloadX hX 0 dL_law_1317 rfl rfl ?_
  refine j_iload_n hX 3 dL_law_1318 rfl rfl ?_
  refine j_iconst hX dL_law_1319 (rc rfl) ?_
  refine j_iadd hX dL_law_1320 ?_
  obtain ⟨x255, hv, h⟩ := bs h
  refine j_sld hX hSX hv dL_law_1321 ?_
  refine j_aloadX hX 0 dL_law_1322 rfl rfl ?_
  refine j_iload_n hX 3 dL_law_1323 rfl rfl ?_
  refine j_iconst hX dL_law_1324 (rc rfl) ?_
  refine j_iadd hX dL_law_1325 ?_
  obtain ⟨x256, hv, h⟩ := bs h
  refine j_sld hX hSX hv dL_law_1326 ?_
  refine j_aloadX hX 0 dL_law_1327 rfl rfl ?_
  refine j_iload_n hX 3 dL_law_1328 rfl rfl ?_
  refine j_iconst hX dL_law_1329 (rc rfl) ?_
  refine j_iadd hX dL_law_1330 ?_
  obtain ⟨x257, hv, h⟩ := bs h
  refine j_sld hX hSX hv dL_law_1331 ?_
  obtain ⟨r258, S259, h1, h⟩ := bd2_s h
  refine j_callVI hX mwX9_shift miX9_shift wd1110 cbX9 ty0 hyX9_shift (by decide) (by decide) hcs dL_law_1332 (s_X9_shift (E := (fun z => cmb z Sm)) (S := Sc) hfl (lensC Sm) h1) npX9_shift rfl (Nat.le_of_ble_eq_true rfl) ?_
  refine j_aload_n hX 2 dL_law_1335 rfl rfl ?_
  refine j_aloadX hX 0 dL_law_1336 rfl rfl ?_
  refine j_iload_n hX 3 dL_law_1337 rfl rfl ?_
  refine j_iconst hX dL_law_1338 (rc rfl) ?_
  refine j_iadd hX dL_law_1339 ?_
  obtain ⟨x260, hv, h⟩ := bs h
  refine j_sld hX hSX hv dL_law_1340 ?_
  refine j_aloadX hX 0 dL_law_1341 rfl rfl ?_
  refine j_iload_n hX 3 dL_law_1342 rfl rfl ?_
  refine j_iconst hX dL_law_1343 (rc rfl) ?_
  refine j_iadd hX dL_law_1344 ?_
  obtain ⟨x261, hv, h⟩ := bs h
  refine j_sld hX hSX hv dL_law_1345 ?_
  refine j_aloadX hX 0 dL_law_1346 rfl rfl ?_
  refine j_iload_n hX 3 dL_law_1347 rfl rfl ?_
  refine j_iconst hX dL_law_1348 (rc rfl) ?_
  refine j_iadd hX dL_law_1349 ?_
  obtain ⟨x262, hv, h⟩ := bs h
  refine j_sld hX hSX hv dL_law_1350 ?_
  refine j_aloadX hX 0 dL_law_1351 rfl rfl ?_
  refine j_iload_n hX 3 dL_law_1352 rfl rfl ?_
  refine j_iconst hX dL_law_1353 (rc rfl) ?_
  refine j_iadd hX dL_law_1354 ?_
  obtain ⟨x263, hv, h⟩ := bs h
  refine j_sld hX hSX hv dL_law_1355 ?_
  refine j_aloadX hX 0 dL_law_1356 rfl rfl ?_
  refine j_iload_n hX 3 dL_law_1357 rfl rfl ?_
  refine j_iconst hX dL_law_1358 (rc rfl) ?_
  refine j_iadd hX dL_law_1359 ?_
  obtain ⟨x264, hv, h⟩ := bs h
  refine j_sld hX hSX hv dL_law_1360 ?_
  obtain ⟨r265, S266, h1, h⟩ := bd2_s h
  refine j_callVI hX mwX10_shift miX10_shift wd1748 cbX10 ty56 hyX10_shift (by decide) (by decide) hcs dL_law_1361 (s_X10_shift (E := (fun z => cmb S259 z)) (S := Sm) hfl (lensM S259) h1) npX10_shift rfl (Nat.le_of_ble_eq_true rfl) ?_
  refine j_icmp_eq hX (tgt := 1425) dL_law_1364 (by decide) (fun hc => ?_) (fun hc => ?_)
  · rw [if_pos hc] at h
    refine j_iinc (L' := [(3, vI (w32 (v3 + 6))), (0, vX (.ref b)), (1, vR 0), (2, vR 56)]) hX 3 dL_law_1425 hnl (by decide) rfl rfl ?_
    refine j_goto hX (tgt := 18) dL_law_1428 (by decide) ?_
    refine j_sub [1, 2, 3, 0] rfl ?_
    exact ih _ _ _ h
  · rw [if_neg hc] at h
    refine j_iconst hX dL_law_1367 (rc rfl) ?_
    cases h
theorem sl_law_c37 {X : K0} {B : Nat → Nat} {n k2 k3 b L : Nat} {xs : Nat → Int} {Q : State → Prop} (hX : Ctx X code "TelegramFeelingsLaw" 1400) (hfl : (gX X).2.2.2.2 = true) (hnl : X.2.2.2.2.2.2.2.2.2.2.2.2.2.2 = 4) (hcs : k2 ≤ X.2.2.2.1.cells ∧ k3 ≤ X.2.2.2.1.slots) (hR1 : ∀ (pc : Nat) (L : List (Nat × AV)) (M : Mem), decode code pc = .ok (.ireturn, 1) → JW X B n k2 k3 pc L [vI 1] M Q) (hSX : SX X b L xs) {rec : Int → Mem → Mem → Option Unit} (ih : ∀ (v3 : Int) (Sc Sm : Mem), rec v3 Sc Sm = some () → JW X B n k2 k3 18 [(0, vX (.ref b)), (1, vR 0), (2, vR 56), (3, vI (v3))] [] (cmb Sc Sm) Q) {v3 : Int} {Sc Sm : Mem} (h : g_law_c37 L xs rec v3 Sc Sm = some ()) : JW X B n k2 k3 1369 [(0, vX (.ref b)), (1, vR 0), (2, vR 56), (3, vI (v3))] [] (cmb Sc Sm) Q := by
  unfold g_law_c37 at h
  refine j_aload_n hX 1 dL_law_1369 rfl rfl ?_
  refine j_aloadX hX 0 dL_law_1370 rfl rfl ?_
  refine j_iload_n hX 3 dL_law_1371 rfl rfl ?_
  refine j_iconst hX dL_law_1372 (rc rfl) ?_
  refine j_iadd hX dL_law_1373 ?_
  obtain ⟨x267, hv, h⟩ := bs h
  refine j_sld hX hSX hv dL_law_1374 ?_
  refine j_aloadX hX 0 dL_law_1375 rfl rfl ?_
  refine j_iload_n hX 3 dL_law_1376 rfl rfl ?_
  refine j_iconst hX dL_law_1377 (rc rfl) ?_
  refine j_iadd hX dL_law_1378 ?_
  obtain ⟨x268, hv, h⟩ := bs h
  refine j_sld hX hSX hv dL_law_1379 ?_
  obtain ⟨r269, h1, h⟩ := bs h
  refine j_callVI hX mwX9_taken miX9_taken wd1119 cbX9 ty0 hyX9_taken (by decide) (by decide) hcs dL_law_1380 (s_X9_taken (E := (fun z => cmb z Sm)) (S := Sc) hfl (lensC Sm) h1) npX9_taken rfl (Nat.le_of_ble_eq_true rfl) ?_
  refine j_aload_n hX 2 dL_law_1383 rfl rfl ?_
  refine j_aloadX hX 0 dL_law_1384 rfl rfl ?_
  refine j_iload_n hX 3 dL_law_1385 rfl rfl ?_
  refine j_iconst hX dL_law_1386 (rc rfl) ?_
  refine j_iadd hX dL_law_1387 ?_
  obtain ⟨x270, hv, h⟩ := bs h
  refine j_sld hX hSX hv dL_law_1388 ?_
  refine j_aloadX hX 0 dL_law_1389 rfl rfl ?_
  refine j_iload_n hX 3 dL_law_1390 rfl rfl ?_
  refine j_iconst hX dL_law_1391 (rc rfl) ?_
  refine j_iadd hX dL_law_1392 ?_
  obtain ⟨x271, hv, h⟩ := bs h
  refine j_sld hX hSX hv dL_law_1393 ?_
  obtain ⟨r272, h1, h⟩ := bs h
  refine j_callVI hX mwX10_taken miX10_taken wd1752 cbX10 ty56 hyX10_taken (by decide) (by decide) hcs dL_law_1394 (s_X10_taken (E := (fun z => cmb Sc z)) (S := Sm) hfl (lensM Sc) h1) npX10_taken rfl (Nat.le_of_ble_eq_true rfl) ?_
  refine j_icmp_eq hX (tgt := 1425) dL_law_1397 (by decide) (fun hc => ?_) (fun hc => ?_)
  · rw [if_pos hc] at h
    refine j_iinc (L' := [(3, vI (w32 (v3 + 6))), (0, vX (.ref b)), (1, vR 0), (2, vR 56)]) hX 3 dL_law_1425 hnl (by decide) rfl rfl ?_
    refine j_goto hX (tgt := 18) dL_law_1428 (by decide) ?_
    refine j_sub [1, 2, 3, 0] rfl ?_
    exact ih _ _ _ h
  · rw [if_neg hc] at h
    refine j_iconst hX dL_law_1400 (rc rfl) ?_
    cases h
theorem sl_law_c38 {X : K0} {B : Nat → Nat} {n k2 k3 b L : Nat} {xs : Nat → Int} {Q : State → Prop} (hX : Ctx X code "TelegramFeelingsLaw" 1400) (hfl : (gX X).2.2.2.2 = true) (hnl : X.2.2.2.2.2.2.2.2.2.2.2.2.2.2 = 4) (hcs : k2 ≤ X.2.2.2.1.cells ∧ k3 ≤ X.2.2.2.1.slots) (hR1 : ∀ (pc : Nat) (L : List (Nat × AV)) (M : Mem), decode code pc = .ok (.ireturn, 1) → JW X B n k2 k3 pc L [vI 1] M Q) (hSX : SX X b L xs) {rec : Int → Mem → Mem → Option Unit} (ih : ∀ (v3 : Int) (Sc Sm : Mem), rec v3 Sc Sm = some () → JW X B n k2 k3 18 [(0, vX (.ref b)), (1, vR 0), (2, vR 56), (3, vI (v3))] [] (cmb Sc Sm) Q) {v3 : Int} {Sc Sm : Mem} (h : g_law_c38 L xs rec v3 Sc Sm = some ()) : JW X B n k2 k3 1402 [(0, vX (.ref b)), (1, vR 0), (2, vR 56), (3, vI (v3))] [] (cmb Sc Sm) Q := by
  unfold g_law_c38 at h
  refine j_aload_n hX 1 dL_law_1402 rfl rfl ?_
  refine j_aloadX hX 0 dL_law_1403 rfl rfl ?_
  refine j_iload_n hX 3 dL_law_1404 rfl rfl ?_
  refine j_iconst hX dL_law_1405 (rc rfl) ?_
  refine j_iadd hX dL_law_1406 ?_
  obtain ⟨x273, hv, h⟩ := bs h
  refine j_sld hX hSX hv dL_law_1407 ?_
  refine j_callVI hX mwX9_count miX9_count wd1131 cbX9 ty0 hyX9_count (by decide) (by decide) hcs dL_law_1408 (s_X9_count (E := (fun z => cmb z Sm)) (S := Sc) hfl (lensC Sm) rfl) npX9_count rfl (Nat.le_of_ble_eq_true rfl) ?_
  refine j_aload_n hX 2 dL_law_1411 rfl rfl ?_
  refine j_aloadX hX 0 dL_law_1412 rfl rfl ?_
  refine j_iload_n hX 3 dL_law_1413 rfl rfl ?_
  refine j_iconst hX dL_law_1414 (rc rfl) ?_
  refine j_iadd hX dL_law_1415 ?_
  obtain ⟨x274, hv, h⟩ := bs h
  refine j_sld hX hSX hv dL_law_1416 ?_
  refine j_callVI hX mwX10_count miX10_count wd1724 cbX10 ty56 hyX10_count (by decide) (by decide) hcs dL_law_1417 (s_X10_count (E := (fun z => cmb Sc z)) (S := Sm) hfl (lensM Sc) rfl) npX10_count rfl (Nat.le_of_ble_eq_true rfl) ?_
  refine j_icmp_eq hX (tgt := 1425) dL_law_1420 (by decide) (fun hc => ?_) (fun hc => ?_)
  · rw [if_pos hc] at h
    refine j_iinc (L' := [(3, vI (w32 (v3 + 6))), (0, vX (.ref b)), (1, vR 0), (2, vR 56)]) hX 3 dL_law_1425 hnl (by decide) rfl rfl ?_
    refine j_goto hX (tgt := 18) dL_law_1428 (by decide) ?_
    refine j_sub [1, 2, 3, 0] rfl ?_
    exact ih _ _ _ h
  · rw [if_neg hc] at h
    refine j_iconst hX dL_law_1423 (rc rfl) ?_
    cases h
theorem sl_law {X : K0} {B : Nat → Nat} {n k2 k3 b L : Nat} {xs : Nat → Int} {Q : State → Prop} (hX : Ctx X code "TelegramFeelingsLaw" 1400) (hfl : (gX X).2.2.2.2 = true) (hnl : X.2.2.2.2.2.2.2.2.2.2.2.2.2.2 = 4) (hcs : k2 ≤ X.2.2.2.1.cells ∧ k3 ≤ X.2.2.2.1.slots) (hR1 : ∀ (pc : Nat) (L : List (Nat × AV)) (M : Mem), decode code pc = .ok (.ireturn, 1) → JW X B n k2 k3 pc L [vI 1] M Q) (hSX : SX X b L xs) : ∀ (fu : Nat) (v3 : Int) (Sc Sm : Mem), g_law_L18 L xs fu v3 Sc Sm = some () → JW X B n k2 k3 18 [(0, vX (.ref b)), (1, vR 0), (2, vR 56), (3, vI (v3))] [] (cmb Sc Sm) Q := by
  intro fu
  induction fu with
  | zero =>
    intro v3 Sc Sm h
    rw [g_law_L18] at h
    cases h
  | succ fu ih =>
    intro v3 Sc Sm h
    rw [g_law_L18] at h
    refine j_iload_n hX 3 dL_law_18 rfl rfl ?_
    refine j_aloadX hX 0 dL_law_19 rfl rfl ?_
    refine j_slen hX hSX dL_law_20 ?_
    refine j_bipush hX dL_law_21 (rc rfl) (by decide) ?_
    refine j_isub hX dL_law_23 ?_
    refine j_icmp_gt hX (tgt := 1431) dL_law_24 (by decide) (fun hc => ?_) (fun hc => ?_)
    · rw [if_pos hc] at h
      refine j_iconst hX dL_law_1431 (rc rfl) ?_
      exact hR1 _ _ _ dL_law_1432
    · rw [if_neg hc] at h
      refine j_aloadX hX 0 dL_law_27 rfl rfl ?_
      refine j_iload_n hX 3 dL_law_28 rfl rfl ?_
      obtain ⟨x1, hv, h⟩ := bs h
      refine j_sld hX hSX hv dL_law_29 ?_
      refine j_bipush hX dL_law_30 (rc rfl) (by decide) ?_
      refine j_iand hX dL_law_32 ?_
      by_cases hc0 : (o_and x1 63) = 0
      · rw [if_pos hc0] at h
        refine j_tin hX (tgt := 204) dL_law_33 hc0 (by decide) (by decide) rfl (by decide) ?_
        exact sl_law_c0 hX hfl hnl hcs hR1 hSX ih h
      rw [if_neg hc0] at h
      by_cases hc1 : (o_and x1 63) = 1
      · rw [if_pos hc1] at h
        refine j_tin hX (tgt := 237) dL_law_33 hc1 (by decide) (by decide) rfl (by decide) ?_
        exact sl_law_c1 hX hfl hnl hcs hR1 hSX ih h
      rw [if_neg hc1] at h
      by_cases hc2 : (o_and x1 63) = 2
      · rw [if_pos hc2] at h
        refine j_tin hX (tgt := 280) dL_law_33 hc2 (by decide) (by decide) rfl (by decide) ?_
        exact sl_law_c2 hX hfl hnl hcs hR1 hSX ih h
      rw [if_neg hc2] at h
      by_cases hc3 : (o_and x1 63) = 3
      · rw [if_pos hc3] at h
        refine j_tin hX (tgt := 303) dL_law_33 hc3 (by decide) (by decide) rfl (by decide) ?_
        exact sl_law_c3 hX hfl hnl hcs hR1 hSX ih h
      rw [if_neg hc3] at h
      by_cases hc4 : (o_and x1 63) = 4
      · rw [if_pos hc4] at h
        refine j_tin hX (tgt := 346) dL_law_33 hc4 (by decide) (by decide) rfl (by decide) ?_
        exact sl_law_c4 hX hfl hnl hcs hR1 hSX ih h
      rw [if_neg hc4] at h
      by_cases hc5 : (o_and x1 63) = 5
      · rw [if_pos hc5] at h
        refine j_tin hX (tgt := 379) dL_law_33 hc5 (by decide) (by decide) rfl (by decide) ?_
        exact sl_law_c5 hX hfl hnl hcs hR1 hSX ih h
      rw [if_neg hc5] at h
      by_cases hc6 : (o_and x1 63) = 6
      · rw [if_pos hc6] at h
        refine j_tin hX (tgt := 402) dL_law_33 hc6 (by decide) (by decide) rfl (by decide) ?_
        exact sl_law_c6 hX hfl hnl hcs hR1 hSX ih h
      rw [if_neg hc6] at h
      by_cases hc7 : (o_and x1 63) = 7
      · rw [if_pos hc7] at h
        refine j_tin hX (tgt := 415) dL_law_33 hc7 (by decide) (by decide) rfl (by decide) ?_
        exact sl_law_c7 hX hfl hnl hcs hR1 hSX ih h
      rw [if_neg hc7] at h
      by_cases hc8 : (o_and x1 63) = 8
      · rw [if_pos hc8] at h
        refine j_tin hX (tgt := 448) dL_law_33 hc8 (by decide) (by decide) rfl (by decide) ?_
        exact sl_law_c8 hX hfl hnl hcs hR1 hSX ih h
      rw [if_neg hc8] at h
      by_cases hc9 : (o_and x1 63) = 9
      · rw [if_pos hc9] at h
        refine j_tin hX (tgt := 481) dL_law_33 hc9 (by decide) (by decide) rfl (by decide) ?_
        exact sl_law_c9 hX hfl hnl hcs hR1 hSX ih h
      rw [if_neg hc9] at h
      by_cases hc10 : (o_and x1 63) = 10
      · rw [if_pos hc10] at h
        refine j_tin hX (tgt := 514) dL_law_33 hc10 (by decide) (by decide) rfl (by decide) ?_
        exact sl_law_c10 hX hfl hnl hcs hR1 hSX ih h
      rw [if_neg hc10] at h
      by_cases hc11 : (o_and x1 63) = 11
      · rw [if_pos hc11] at h
        refine j_tin hX (tgt := 547) dL_law_33 hc11 (by decide) (by decide) rfl (by decide) ?_
        exact sl_law_c11 hX hfl hnl hcs hR1 hSX ih h
      rw [if_neg hc11] at h
      by_cases hc12 : (o_and x1 63) = 12
      · rw [if_pos hc12] at h
        refine j_tin hX (tgt := 570) dL_law_33 hc12 (by decide) (by decide) rfl (by decide) ?_
        exact sl_law_c12 hX hfl hnl hcs hR1 hSX ih h
      rw [if_neg hc12] at h
      by_cases hc13 : (o_and x1 63) = 13
      · rw [if_pos hc13] at h
        refine j_tin hX (tgt := 613) dL_law_33 hc13 (by decide) (by decide) rfl (by decide) ?_
        exact sl_law_c13 hX hfl hnl hcs hR1 hSX ih h
      rw [if_neg hc13] at h
      by_cases hc14 : (o_and x1 63) = 14
      · rw [if_pos hc14] at h
        refine j_tin hX (tgt := 637) dL_law_33 hc14 (by decide) (by decide) rfl (by decide) ?_
        exact sl_law_c14 hX hfl hnl hcs hR1 hSX ih h
      rw [if_neg hc14] at h
      by_cases hc15 : (o_and x1 63) = 15
      · rw [if_pos hc15] at h
        refine j_tin hX (tgt := 670) dL_law_33 hc15 (by decide) (by decide) rfl (by decide) ?_
        exact sl_law_c15 hX hfl hnl hcs hR1 hSX ih h
      rw [if_neg hc15] at h
      by_cases hc16 : (o_and x1 63) = 16
      · rw [if_pos hc16] at h
        refine j_tin hX (tgt := 714) dL_law_33 hc16 (by decide) (by decide) rfl (by decide) ?_
        exact sl_law_c16 hX hfl hnl hcs hR1 hSX ih h
      rw [if_neg hc16] at h
      by_cases hc17 : (o_and x1 63) = 17
      · rw [if_pos hc17] at h
        refine j_tin hX (tgt := 737) dL_law_33 hc17 (by decide) (by decide) rfl (by decide) ?_
        exact sl_law_c17 hX hfl hnl hcs hR1 hSX ih h
      rw [if_neg hc17] at h
      by_cases hc18 : (o_and x1 63) = 18
      · rw [if_pos hc18] at h
        refine j_tin hX (tgt := 771) dL_law_33 hc18 (by decide) (by decide) rfl (by decide) ?_
        exact sl_law_c18 hX hfl hnl hcs hR1 hSX ih h
      rw [if_neg hc18] at h
      by_cases hc19 : (o_and x1 63) = 19
      · rw [if_pos hc19] at h
        refine j_tin hX (tgt := 804) dL_law_33 hc19 (by decide) (by decide) rfl (by decide) ?_
        exact sl_law_c19 hX hfl hnl hcs hR1 hSX ih h
      rw [if_neg hc19] at h
      by_cases hc20 : (o_and x1 63) = 20
      · rw [if_pos hc20] at h
        refine j_tin hX (tgt := 847) dL_law_33 hc20 (by decide) (by decide) rfl (by decide) ?_
        exact sl_law_c20 hX hfl hnl hcs hR1 hSX ih h
      rw [if_neg hc20] at h
      by_cases hc21 : (o_and x1 63) = 21
      · rw [if_pos hc21] at h
        refine j_tin hX (tgt := 870) dL_law_33 hc21 (by decide) (by decide) rfl (by decide) ?_
        exact sl_law_c21 hX hfl hnl hcs hR1 hSX ih h
      rw [if_neg hc21] at h
      by_cases hc22 : (o_and x1 63) = 22
      · rw [if_pos hc22] at h
        refine j_tin hX (tgt := 913) dL_law_33 hc22 (by decide) (by decide) rfl (by decide) ?_
        exact sl_law_c22 hX hfl hnl hcs hR1 hSX ih h
      rw [if_neg hc22] at h
      by_cases hc23 : (o_and x1 63) = 23
      · rw [if_pos hc23] at h
        refine j_tin hX (tgt := 946) dL_law_33 hc23 (by decide) (by decide) rfl (by decide) ?_
        exact sl_law_c23 hX hfl hnl hcs hR1 hSX ih h
      rw [if_neg hc23] at h
      by_cases hc24 : (o_and x1 63) = 24
      · rw [if_pos hc24] at h
        refine j_tin hX (tgt := 959) dL_law_33 hc24 (by decide) (by decide) rfl (by decide) ?_
        exact sl_law_c24 hX hfl hnl hcs hR1 hSX ih h
      rw [if_neg hc24] at h
      by_cases hc25 : (o_and x1 63) = 25
      · rw [if_pos hc25] at h
        refine j_tin hX (tgt := 982) dL_law_33 hc25 (by decide) (by decide) rfl (by decide) ?_
        exact sl_law_c25 hX hfl hnl hcs hR1 hSX ih h
      rw [if_neg hc25] at h
      by_cases hc26 : (o_and x1 63) = 26
      · rw [if_pos hc26] at h
        refine j_tin hX (tgt := 995) dL_law_33 hc26 (by decide) (by decide) rfl (by decide) ?_
        exact sl_law_c26 hX hfl hnl hcs hR1 hSX ih h
      rw [if_neg hc26] at h
      by_cases hc27 : (o_and x1 63) = 27
      · rw [if_pos hc27] at h
        refine j_tin hX (tgt := 1008) dL_law_33 hc27 (by decide) (by decide) rfl (by decide) ?_
        exact sl_law_c27 hX hfl hnl hcs hR1 hSX ih h
      rw [if_neg hc27] at h
      by_cases hc28 : (o_and x1 63) = 28
      · rw [if_pos hc28] at h
        refine j_tin hX (tgt := 1021) dL_law_33 hc28 (by decide) (by decide) rfl (by decide) ?_
        exact sl_law_c28 hX hfl hnl hcs hR1 hSX ih h
      rw [if_neg hc28] at h
      by_cases hc29 : (o_and x1 63) = 29
      · rw [if_pos hc29] at h
        refine j_tin hX (tgt := 1034) dL_law_33 hc29 (by decide) (by decide) rfl (by decide) ?_
        exact sl_law_c29 hX hfl hnl hcs hR1 hSX ih h
      rw [if_neg hc29] at h
      by_cases hc30 : (o_and x1 63) = 30
      · rw [if_pos hc30] at h
        refine j_tin hX (tgt := 1057) dL_law_33 hc30 (by decide) (by decide) rfl (by decide) ?_
        exact sl_law_c30 hX hfl hnl hcs hR1 hSX ih h
      rw [if_neg hc30] at h
      by_cases hc31 : (o_and x1 63) = 31
      · rw [if_pos hc31] at h
        refine j_tin hX (tgt := 1100) dL_law_33 hc31 (by decide) (by decide) rfl (by decide) ?_
        exact sl_law_c31 hX hfl hnl hcs hR1 hSX ih h
      rw [if_neg hc31] at h
      by_cases hc32 : (o_and x1 63) = 32
      · rw [if_pos hc32] at h
        refine j_tin hX (tgt := 1123) dL_law_33 hc32 (by decide) (by decide) rfl (by decide) ?_
        exact sl_law_c32 hX hfl hnl hcs hR1 hSX ih h
      rw [if_neg hc32] at h
      by_cases hc33 : (o_and x1 63) = 33
      · rw [if_pos hc33] at h
        refine j_tin hX (tgt := 1156) dL_law_33 hc33 (by decide) (by decide) rfl (by decide) ?_
        exact sl_law_c33 hX hfl hnl hcs hR1 hSX ih h
      rw [if_neg hc33] at h
      by_cases hc34 : (o_and x1 63) = 34
      · rw [if_pos hc34] at h
        refine j_tin hX (tgt := 1199) dL_law_33 hc34 (by decide) (by decide) rfl (by decide) ?_
        exact sl_law_c34 hX hfl hnl hcs hR1 hSX ih h
      rw [if_neg hc34] at h
      by_cases hc35 : (o_and x1 63) = 35
      · rw [if_pos hc35] at h
        refine j_tin hX (tgt := 1272) dL_law_33 hc35 (by decide) (by decide) rfl (by decide) ?_
        exact sl_law_c35 hX hfl hnl hcs hR1 hSX ih h
      rw [if_neg hc35] at h
      by_cases hc36 : (o_and x1 63) = 36
      · rw [if_pos hc36] at h
        refine j_tin hX (tgt := 1306) dL_law_33 hc36 (by decide) (by decide) rfl (by decide) ?_
        exact sl_law_c36 hX hfl hnl hcs hR1 hSX ih h
      rw [if_neg hc36] at h
      by_cases hc37 : (o_and x1 63) = 37
      · rw [if_pos hc37] at h
        refine j_tin hX (tgt := 1369) dL_law_33 hc37 (by decide) (by decide) rfl (by decide) ?_
        exact sl_law_c37 hX hfl hnl hcs hR1 hSX ih h
      rw [if_neg hc37] at h
      by_cases hc38 : (o_and x1 63) = 38
      · rw [if_pos hc38] at h
        refine j_tin hX (tgt := 1402) dL_law_33 hc38 (by decide) (by decide) rfl (by decide) ?_
        exact sl_law_c38 hX hfl hnl hcs hR1 hSX ih h
      rw [if_neg hc38] at h
      refine j_tout hX (tgt := 1425) dL_law_33 (by omega) (by decide) ?_
      refine j_iinc (L' := [(3, vI (w32 (v3 + 6))), (0, vX (.ref b)), (1, vR 0), (2, vR 56)]) hX 3 dL_law_1425 hnl (by decide) rfl rfl ?_
      refine j_goto hX (tgt := 18) dL_law_1428 (by decide) ?_
      refine j_sub [1, 2, 3, 0] rfl ?_
      exact ih _ _ _ h
