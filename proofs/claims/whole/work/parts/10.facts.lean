/-! FACTS of cells and methods -/
def PC (a : Nat) : Prop := a < 56
def PM (a : Nat) : Prop := 56 ≤ a
theorem rc {z : Int} (h : (decide (-2147483648 ≤ z) && decide (z ≤ 2147483647)) = true) : r32 z := by
  rw [Bool.and_eq_true] at h
  exact ⟨of_decide_eq_true h.1, of_decide_eq_true h.2⟩
theorem rcl {z : Int} (h : (decide (-9223372036854775808 ≤ z) && decide (z ≤ 9223372036854775807)) = true) : r64 z := by
  rw [Bool.and_eq_true] at h
  exact ⟨of_decide_eq_true h.1, of_decide_eq_true h.2⟩
theorem bs {α β : Type} {x : Option α} {f : α → Option β} {r : β} (h : x.bind f = some r) : ∃ a, x = some a ∧ f a = some r := by
  cases x with
  | none => cases h
  | some a => exact ⟨a, rfl, h⟩
abbrev bd2 {α β γ : Type} (x : Option (α × β)) (f : α → β → Option γ) : Option γ := x.bind fun q => f q.1 q.2
theorem bd2_s {α β γ : Type} {x : Option (α × β)} {f : α → β → Option γ} {r : γ} (h : bd2 x f = some r) : ∃ a b, x = some (a, b) ∧ f a b = some r := by
  obtain ⟨q, h1, h2⟩ := bs h
  exact ⟨q.1, q.2, h1, h2⟩
abbrev ap {α β : Type} (e : α) (f : α → β) : β := f e
theorem ap_s {α β : Type} {e : α} {f : α → β} {r : β} (h : ap e f = r) : ∃ x, x = e ∧ f x = r := ⟨e, rfl, h⟩
def chk {α : Type} (c : Prop) [Decidable c] (x : Option α) : Option α := if c then x else none
theorem chk_s {α : Type} {c : Prop} [Decidable c] {x : Option α} {r : α} (h : chk c x = some r) : c ∧ x = some r := by
  unfold chk at h
  by_cases q : c
  · rw [if_pos q] at h; exact ⟨q, h⟩
  · rw [if_neg q] at h; cases h
/-- as many turns as no loop of a run can need -/
def FU : Nat := 100000
theorem ldk_c {S : Mem} {a N k : Nat} (h : k < N) : ldk S a N (k : Int) = some (gI S a k) := by
  unfold ldk
  rw [if_pos ⟨by omega, by omega⟩]
  rfl
theorem stk_c {S : Mem} {a N k : Nat} {v : Int} (h : k < N) : stk S a N (k : Int) v = some (sI S a k v) := by
  unfold stk
  rw [if_pos ⟨by omega, by omega⟩]
  rfl
/-- the place of a name's letter -/
def nmIx (c : Int) : Int := if c = 99 then 0 else if c = 115 then 1 else if c = 108 then 2 else if c = 112 then 3 else if c = 100 then 4 else if c = 119 then 5 else -1
def cpk (S : Mem) (a N : Nat) (i : Int) (b N' : Nat) (j n : Int) : Option Mem := if 0 ≤ i ∧ 0 ≤ j ∧ 0 ≤ n ∧ i + n ≤ N ∧ j + n ≤ N' then some (cpI S a i.toNat b j.toNat n.toNat) else none
def cpd (S : Mem) (a : Nat) (i : Int) (b : Nat) (j n : Int) : Option Mem := if (tyc a).1 = 2 ∧ (tyc b).1 = 2 ∧ a < 56 ∧ b < 56 then cpk S a (tyc a).2 i b (tyc b).2 j n else none
theorem ty0 : tyc 0 = (0, 9) := rfl
theorem pc0 : PC 0 := (by unfold PC; decide)
theorem ty1 : tyc 1 = (0, 5) := rfl
theorem pc1 : PC 1 := (by unfold PC; decide)
theorem ty2 : tyc 2 = (5, 10) := rfl
theorem pc2 : PC 2 := (by unfold PC; decide)
theorem ty3 : tyc 3 = (1, 12) := rfl
theorem pc3 : PC 3 := (by unfold PC; decide)
theorem ty4 : tyc 4 = (1, 12) := rfl
theorem pc4 : PC 4 := (by unfold PC; decide)
theorem ty5 : tyc 5 = (1, 12) := rfl
theorem pc5 : PC 5 := (by unfold PC; decide)
theorem ty6 : tyc 6 = (1, 12) := rfl
theorem pc6 : PC 6 := (by unfold PC; decide)
theorem ty7 : tyc 7 = (1, 12) := rfl
theorem pc7 : PC 7 := (by unfold PC; decide)
theorem ty8 : tyc 8 = (1, 12) := rfl
theorem pc8 : PC 8 := (by unfold PC; decide)
theorem ty9 : tyc 9 = (1, 12) := rfl
theorem pc9 : PC 9 := (by unfold PC; decide)
theorem ty10 : tyc 10 = (1, 12) := rfl
theorem pc10 : PC 10 := (by unfold PC; decide)
theorem ty11 : tyc 11 = (1, 12) := rfl
theorem pc11 : PC 11 := (by unfold PC; decide)
theorem ty12 : tyc 12 = (1, 12) := rfl
theorem pc12 : PC 12 := (by unfold PC; decide)
theorem ty13 : tyc 13 = (0, 4) := rfl
theorem pc13 : PC 13 := (by unfold PC; decide)
theorem ty14 : tyc 14 = (1, 120) := rfl
theorem pc14 : PC 14 := (by unfold PC; decide)
theorem ty15 : tyc 15 = (1, 121) := rfl
theorem pc15 : PC 15 := (by unfold PC; decide)
theorem ty16 : tyc 16 = (1, 121) := rfl
theorem pc16 : PC 16 := (by unfold PC; decide)
theorem ty17 : tyc 17 = (1, 6) := rfl
theorem pc17 : PC 17 := (by unfold PC; decide)
theorem ty18 : tyc 18 = (1, 121) := rfl
theorem pc18 : PC 18 := (by unfold PC; decide)
theorem ty19 : tyc 19 = (0, 7) := rfl
theorem pc19 : PC 19 := (by unfold PC; decide)
theorem ty20 : tyc 20 = (1, 6) := rfl
theorem pc20 : PC 20 := (by unfold PC; decide)
theorem ty21 : tyc 21 = (1, 6) := rfl
theorem pc21 : PC 21 := (by unfold PC; decide)
theorem ty22 : tyc 22 = (1, 6) := rfl
theorem pc22 : PC 22 := (by unfold PC; decide)
theorem ty23 : tyc 23 = (6, 6) := rfl
theorem pc23 : PC 23 := (by unfold PC; decide)
theorem ty24 : tyc 24 = (2, 60) := rfl
theorem pc24 : PC 24 := (by unfold PC; decide)
theorem ty25 : tyc 25 = (2, 60) := rfl
theorem pc25 : PC 25 := (by unfold PC; decide)
theorem ty26 : tyc 26 = (2, 60) := rfl
theorem pc26 : PC 26 := (by unfold PC; decide)
theorem ty27 : tyc 27 = (2, 60) := rfl
theorem pc27 : PC 27 := (by unfold PC; decide)
theorem ty28 : tyc 28 = (2, 60) := rfl
theorem pc28 : PC 28 := (by unfold PC; decide)
theorem ty29 : tyc 29 = (2, 60) := rfl
theorem pc29 : PC 29 := (by unfold PC; decide)
theorem ty30 : tyc 30 = (0, 8) := rfl
theorem pc30 : PC 30 := (by unfold PC; decide)
theorem ty31 : tyc 31 = (1, 12) := rfl
theorem pc31 : PC 31 := (by unfold PC; decide)
theorem ty32 : tyc 32 = (1, 12) := rfl
theorem pc32 : PC 32 := (by unfold PC; decide)
theorem ty33 : tyc 33 = (1, 13) := rfl
theorem pc33 : PC 33 := (by unfold PC; decide)
theorem ty34 : tyc 34 = (0, 6) := rfl
theorem pc34 : PC 34 := (by unfold PC; decide)
theorem ty35 : tyc 35 = (2, 64) := rfl
theorem pc35 : PC 35 := (by unfold PC; decide)
theorem ty36 : tyc 36 = (2, 256) := rfl
theorem pc36 : PC 36 := (by unfold PC; decide)
theorem ty37 : tyc 37 = (2, 256) := rfl
theorem pc37 : PC 37 := (by unfold PC; decide)
theorem ty38 : tyc 38 = (0, 3) := rfl
theorem pc38 : PC 38 := (by unfold PC; decide)
theorem ty39 : tyc 39 = (2, 4) := rfl
theorem pc39 : PC 39 := (by unfold PC; decide)
theorem ty40 : tyc 40 = (2, 4) := rfl
theorem pc40 : PC 40 := (by unfold PC; decide)
theorem ty41 : tyc 41 = (1, 4) := rfl
theorem pc41 : PC 41 := (by unfold PC; decide)
theorem ty42 : tyc 42 = (1, 4) := rfl
theorem pc42 : PC 42 := (by unfold PC; decide)
theorem ty43 : tyc 43 = (0, 2) := rfl
theorem pc43 : PC 43 := (by unfold PC; decide)
theorem ty44 : tyc 44 = (1, 5) := rfl
theorem pc44 : PC 44 := (by unfold PC; decide)
theorem ty45 : tyc 45 = (1, 6) := rfl
theorem pc45 : PC 45 := (by unfold PC; decide)
theorem ty46 : tyc 46 = (1, 6) := rfl
theorem pc46 : PC 46 := (by unfold PC; decide)
theorem ty47 : tyc 47 = (1, 5) := rfl
theorem pc47 : PC 47 := (by unfold PC; decide)
theorem ty48 : tyc 48 = (0, 1) := rfl
theorem pc48 : PC 48 := (by unfold PC; decide)
theorem ty49 : tyc 49 = (1, 40) := rfl
theorem pc49 : PC 49 := (by unfold PC; decide)
theorem ty50 : tyc 50 = (1, 40) := rfl
theorem pc50 : PC 50 := (by unfold PC; decide)
theorem ty51 : tyc 51 = (1, 40) := rfl
theorem pc51 : PC 51 := (by unfold PC; decide)
theorem ty52 : tyc 52 = (1, 40) := rfl
theorem pc52 : PC 52 := (by unfold PC; decide)
theorem ty53 : tyc 53 = (0, 0) := rfl
theorem pc53 : PC 53 := (by unfold PC; decide)
theorem ty54 : tyc 54 = (1, 50) := rfl
theorem pc54 : PC 54 := (by unfold PC; decide)
theorem ty55 : tyc 55 = (1, 24) := rfl
theorem pc55 : PC 55 := (by unfold PC; decide)
theorem ty56 : tyc 56 = (0, 10) := rfl
theorem pc56 : PM 56 := (by unfold PM; decide)
theorem ty57 : tyc 57 = (1, 12) := rfl
theorem pc57 : PM 57 := (by unfold PM; decide)
theorem ty58 : tyc 58 = (1, 12) := rfl
theorem pc58 : PM 58 := (by unfold PM; decide)
theorem ty59 : tyc 59 = (1, 12) := rfl
theorem pc59 : PM 59 := (by unfold PM; decide)
theorem ty60 : tyc 60 = (1, 12) := rfl
theorem pc60 : PM 60 := (by unfold PM; decide)
theorem ty61 : tyc 61 = (1, 12) := rfl
theorem pc61 : PM 61 := (by unfold PM; decide)
theorem ty62 : tyc 62 = (1, 6) := rfl
theorem pc62 : PM 62 := (by unfold PM; decide)
theorem ty63 : tyc 63 = (1, 6) := rfl
theorem pc63 : PM 63 := (by unfold PM; decide)
theorem ty64 : tyc 64 = (1, 3) := rfl
theorem pc64 : PM 64 := (by unfold PM; decide)
theorem ty65 : tyc 65 = (1, 40) := rfl
theorem pc65 : PM 65 := (by unfold PM; decide)
theorem ty66 : tyc 66 = (1, 40) := rfl
theorem pc66 : PM 66 := (by unfold PM; decide)
theorem ty67 : tyc 67 = (1, 40) := rfl
theorem pc67 : PM 67 := (by unfold PM; decide)
theorem ty68 : tyc 68 = (1, 40) := rfl
theorem pc68 : PM 68 := (by unfold PM; decide)
theorem ty69 : tyc 69 = (3, 120) := rfl
theorem pc69 : PM 69 := (by unfold PM; decide)
theorem ty70 : tyc 70 = (3, 260) := rfl
theorem pc70 : PM 70 := (by unfold PM; decide)
theorem ty71 : tyc 71 = (1, 260) := rfl
theorem pc71 : PM 71 := (by unfold PM; decide)
theorem ty72 : tyc 72 = (1, 2) := rfl
theorem pc72 : PM 72 := (by unfold PM; decide)
theorem ty73 : tyc 73 = (4, 122) := rfl
theorem pc73 : PM 73 := (by unfold PM; decide)
theorem ty74 : tyc 74 = (4, 122) := rfl
theorem pc74 : PM 74 := (by unfold PM; decide)
theorem ty75 : tyc 75 = (1, 6) := rfl
theorem pc75 : PM 75 := (by unfold PM; decide)
theorem ty76 : tyc 76 = (1, 130) := rfl
theorem pc76 : PM 76 := (by unfold PM; decide)
theorem ty77 : tyc 77 = (1, 12) := rfl
theorem pc77 : PM 77 := (by unfold PM; decide)
theorem ty78 : tyc 78 = (1, 13) := rfl
theorem pc78 : PM 78 := (by unfold PM; decide)
theorem ty79 : tyc 79 = (1, 13) := rfl
theorem pc79 : PM 79 := (by unfold PM; decide)
theorem ty80 : tyc 80 = (1, 3584) := rfl
theorem pc80 : PM 80 := (by unfold PM; decide)
theorem ty81 : tyc 81 = (1, 512) := rfl
theorem pc81 : PM 81 := (by unfold PM; decide)
theorem ty82 : tyc 82 = (1, 512) := rfl
theorem pc82 : PM 82 := (by unfold PM; decide)
theorem ty83 : tyc 83 = (1, 64) := rfl
theorem pc83 : PM 83 := (by unfold PM; decide)
theorem ty84 : tyc 84 = (2, 112) := rfl
theorem pc84 : PM 84 := (by unfold PM; decide)
theorem ty85 : tyc 85 = (2, 112) := rfl
theorem pc85 : PM 85 := (by unfold PM; decide)
theorem ty86 : tyc 86 = (2, 112) := rfl
theorem pc86 : PM 86 := (by unfold PM; decide)
theorem ty87 : tyc 87 = (1, 5) := rfl
theorem pc87 : PM 87 := (by unfold PM; decide)
theorem ty88 : tyc 88 = (1, 6) := rfl
theorem pc88 : PM 88 := (by unfold PM; decide)
theorem ty89 : tyc 89 = (1, 6) := rfl
theorem pc89 : PM 89 := (by unfold PM; decide)
theorem ty90 : tyc 90 = (1, 5) := rfl
theorem pc90 : PM 90 := (by unfold PM; decide)
theorem ty91 : tyc 91 = (1, 50) := rfl
theorem pc91 : PM 91 := (by unfold PM; decide)
theorem ty92 : tyc 92 = (1, 24) := rfl
theorem pc92 : PM 92 := (by unfold PM; decide)
theorem ty93 : tyc 93 = (1, 6) := rfl
theorem pc93 : PM 93 := (by unfold PM; decide)
theorem ty94 : tyc 94 = (1, 6) := rfl
theorem pc94 : PM 94 := (by unfold PM; decide)
theorem ty95 : tyc 95 = (2, 360) := rfl
theorem pc95 : PM 95 := (by unfold PM; decide)
theorem ty96 : tyc 96 = (2, 60) := rfl
theorem pc96 : PM 96 := (by unfold PM; decide)
theorem sb0_0 : (0, 0, 1) ∈ stab := by decide +kernel
theorem sb0_1 : (0, 1, 13) ∈ stab := by decide +kernel
theorem sb0_2 : (0, 2, 19) ∈ stab := by decide +kernel
theorem sb0_3 : (0, 3, 30) ∈ stab := by decide +kernel
theorem sb0_4 : (0, 4, 34) ∈ stab := by decide +kernel
theorem sb0_5 : (0, 5, 38) ∈ stab := by decide +kernel
theorem sb0_6 : (0, 6, 43) ∈ stab := by decide +kernel
theorem sb0_7 : (0, 7, 48) ∈ stab := by decide +kernel
theorem sb0_8 : (0, 8, 53) ∈ stab := by decide +kernel
theorem sb1_0 : (1, 0, 2) ∈ stab := by decide +kernel
theorem sb2_0 : (2, 0, 3) ∈ stab := by decide +kernel
theorem sb2_1 : (2, 1, 4) ∈ stab := by decide +kernel
theorem sb2_2 : (2, 2, 5) ∈ stab := by decide +kernel
theorem sb2_3 : (2, 3, 6) ∈ stab := by decide +kernel
theorem sb2_4 : (2, 4, 7) ∈ stab := by decide +kernel
theorem sb2_5 : (2, 5, 8) ∈ stab := by decide +kernel
theorem sb2_6 : (2, 6, 9) ∈ stab := by decide +kernel
theorem sb2_7 : (2, 7, 10) ∈ stab := by decide +kernel
theorem sb2_8 : (2, 8, 11) ∈ stab := by decide +kernel
theorem sb2_9 : (2, 9, 12) ∈ stab := by decide +kernel
theorem sb13_0 : (13, 0, 1) ∈ stab := by decide +kernel
theorem sb13_1 : (13, 1, 14) ∈ stab := by decide +kernel
theorem sb13_8 : (13, 8, 17) ∈ stab := by decide +kernel
theorem sb13_9 : (13, 9, 18) ∈ stab := by decide +kernel
theorem sb19_0 : (19, 0, 20) ∈ stab := by decide +kernel
theorem sb19_1 : (19, 1, 21) ∈ stab := by decide +kernel
theorem sb19_2 : (19, 2, 22) ∈ stab := by decide +kernel
theorem sb19_3 : (19, 3, 23) ∈ stab := by decide +kernel
theorem sb23_0 : (23, 0, 24) ∈ stab := by decide +kernel
theorem sb23_1 : (23, 1, 25) ∈ stab := by decide +kernel
theorem sb23_2 : (23, 2, 26) ∈ stab := by decide +kernel
theorem sb23_3 : (23, 3, 27) ∈ stab := by decide +kernel
theorem sb23_4 : (23, 4, 28) ∈ stab := by decide +kernel
theorem sb23_5 : (23, 5, 29) ∈ stab := by decide +kernel
theorem sb30_0 : (30, 0, 1) ∈ stab := by decide +kernel
theorem sb30_1 : (30, 1, 13) ∈ stab := by decide +kernel
theorem sb30_2 : (30, 2, 31) ∈ stab := by decide +kernel
theorem sb30_3 : (30, 3, 32) ∈ stab := by decide +kernel
theorem sb30_4 : (30, 4, 33) ∈ stab := by decide +kernel
theorem sb34_0 : (34, 0, 1) ∈ stab := by decide +kernel
theorem sb34_1 : (34, 1, 13) ∈ stab := by decide +kernel
theorem sb34_2 : (34, 2, 35) ∈ stab := by decide +kernel
theorem sb38_0 : (38, 0, 1) ∈ stab := by decide +kernel
theorem sb38_1 : (38, 1, 30) ∈ stab := by decide +kernel
theorem sb43_0 : (43, 0, 1) ∈ stab := by decide +kernel
theorem sb43_1 : (43, 1, 44) ∈ stab := by decide +kernel
theorem sb43_5 : (43, 5, 45) ∈ stab := by decide +kernel
theorem sb43_6 : (43, 6, 46) ∈ stab := by decide +kernel
theorem sb43_7 : (43, 7, 47) ∈ stab := by decide +kernel
theorem sb48_0 : (48, 0, 1) ∈ stab := by decide +kernel
theorem sb48_1 : (48, 1, 49) ∈ stab := by decide +kernel
theorem sb48_2 : (48, 2, 50) ∈ stab := by decide +kernel
theorem sb48_3 : (48, 3, 51) ∈ stab := by decide +kernel
theorem sb48_4 : (48, 4, 52) ∈ stab := by decide +kernel
theorem sb53_0 : (53, 0, 54) ∈ stab := by decide +kernel
theorem sb53_2 : (53, 2, 55) ∈ stab := by decide +kernel
theorem sb56_2 : (56, 2, 57) ∈ stab := by decide +kernel
theorem sb56_3 : (56, 3, 58) ∈ stab := by decide +kernel
theorem sb56_4 : (56, 4, 59) ∈ stab := by decide +kernel
theorem sb56_5 : (56, 5, 60) ∈ stab := by decide +kernel
theorem sb56_6 : (56, 6, 61) ∈ stab := by decide +kernel
theorem sb56_8 : (56, 8, 62) ∈ stab := by decide +kernel
theorem sb56_9 : (56, 9, 63) ∈ stab := by decide +kernel
theorem sb56_10 : (56, 10, 64) ∈ stab := by decide +kernel
theorem sb56_13 : (56, 13, 65) ∈ stab := by decide +kernel
theorem sb56_14 : (56, 14, 66) ∈ stab := by decide +kernel
theorem sb56_15 : (56, 15, 67) ∈ stab := by decide +kernel
theorem sb56_16 : (56, 16, 68) ∈ stab := by decide +kernel
theorem sb56_17 : (56, 17, 69) ∈ stab := by decide +kernel
theorem sb56_23 : (56, 23, 70) ∈ stab := by decide +kernel
theorem sb56_24 : (56, 24, 71) ∈ stab := by decide +kernel
theorem sb56_25 : (56, 25, 72) ∈ stab := by decide +kernel
theorem sb56_26 : (56, 26, 73) ∈ stab := by decide +kernel
theorem sb56_27 : (56, 27, 74) ∈ stab := by decide +kernel
theorem sb56_28 : (56, 28, 75) ∈ stab := by decide +kernel
theorem sb56_29 : (56, 29, 76) ∈ stab := by decide +kernel
theorem sb56_31 : (56, 31, 77) ∈ stab := by decide +kernel
theorem sb56_33 : (56, 33, 78) ∈ stab := by decide +kernel
theorem sb56_34 : (56, 34, 79) ∈ stab := by decide +kernel
theorem sb56_35 : (56, 35, 80) ∈ stab := by decide +kernel
theorem sb56_38 : (56, 38, 81) ∈ stab := by decide +kernel
theorem sb56_39 : (56, 39, 82) ∈ stab := by decide +kernel
theorem sb56_40 : (56, 40, 83) ∈ stab := by decide +kernel
theorem sb56_41 : (56, 41, 84) ∈ stab := by decide +kernel
theorem sb56_42 : (56, 42, 85) ∈ stab := by decide +kernel
theorem sb56_43 : (56, 43, 86) ∈ stab := by decide +kernel
theorem sb56_45 : (56, 45, 87) ∈ stab := by decide +kernel
theorem sb56_49 : (56, 49, 88) ∈ stab := by decide +kernel
theorem sb56_50 : (56, 50, 89) ∈ stab := by decide +kernel
theorem sb56_51 : (56, 51, 90) ∈ stab := by decide +kernel
theorem sb56_53 : (56, 53, 91) ∈ stab := by decide +kernel
theorem sb56_55 : (56, 55, 92) ∈ stab := by decide +kernel
theorem sb56_56 : (56, 56, 93) ∈ stab := by decide +kernel
theorem sb56_57 : (56, 57, 94) ∈ stab := by decide +kernel
theorem sb56_58 : (56, 58, 95) ∈ stab := by decide +kernel
theorem sb56_59 : (56, 59, 96) ∈ stab := by decide +kernel
theorem npX0_add : (parseMethodDescriptor yX0_add.desc).map (fun d => d.parameters.length) = some 1 := by decide +kernel
theorem hyX0_add : yX0_add.cls ≠ "java/lang/invoke/MethodHandle" ∧ yX0_add.cls ≠ "java/lang/invoke/VarHandle" := by decide +kernel
theorem npX0_kindOf : (parseMethodDescriptor yX0_kindOf.desc).map (fun d => d.parameters.length) = some 1 := by decide +kernel
theorem hyX0_kindOf : yX0_kindOf.cls ≠ "java/lang/invoke/MethodHandle" ∧ yX0_kindOf.cls ≠ "java/lang/invoke/VarHandle" := by decide +kernel
theorem npX0_above : (parseMethodDescriptor yX0_above.desc).map (fun d => d.parameters.length) = some 1 := by decide +kernel
theorem hyX0_above : yX0_above.cls ≠ "java/lang/invoke/MethodHandle" ∧ yX0_above.cls ≠ "java/lang/invoke/VarHandle" := by decide +kernel
theorem npX0_isUnder : (parseMethodDescriptor yX0_isUnder.desc).map (fun d => d.parameters.length) = some 2 := by decide +kernel
theorem hyX0_isUnder : yX0_isUnder.cls ≠ "java/lang/invoke/MethodHandle" ∧ yX0_isUnder.cls ≠ "java/lang/invoke/VarHandle" := by decide +kernel
theorem npX0_ranAt : (parseMethodDescriptor yX0_ranAt.desc).map (fun d => d.parameters.length) = some 1 := by decide +kernel
theorem hyX0_ranAt : yX0_ranAt.cls ≠ "java/lang/invoke/MethodHandle" ∧ yX0_ranAt.cls ≠ "java/lang/invoke/VarHandle" := by decide +kernel
theorem npX0_runAct : (parseMethodDescriptor yX0_runAct.desc).map (fun d => d.parameters.length) = some 3 := by decide +kernel
theorem hyX0_runAct : yX0_runAct.cls ≠ "java/lang/invoke/MethodHandle" ∧ yX0_runAct.cls ≠ "java/lang/invoke/VarHandle" := by decide +kernel
theorem npX0_begins : (parseMethodDescriptor yX0_begins.desc).map (fun d => d.parameters.length) = some 1 := by decide +kernel
theorem hyX0_begins : yX0_begins.cls ≠ "java/lang/invoke/MethodHandle" ∧ yX0_begins.cls ≠ "java/lang/invoke/VarHandle" := by decide +kernel
theorem npX0_says : (parseMethodDescriptor yX0_says.desc).map (fun d => d.parameters.length) = some 2 := by decide +kernel
theorem hyX0_says : yX0_says.cls ≠ "java/lang/invoke/MethodHandle" ∧ yX0_says.cls ≠ "java/lang/invoke/VarHandle" := by decide +kernel
theorem npX0_costs : (parseMethodDescriptor yX0_costs.desc).map (fun d => d.parameters.length) = some 2 := by decide +kernel
theorem hyX0_costs : yX0_costs.cls ≠ "java/lang/invoke/MethodHandle" ∧ yX0_costs.cls ≠ "java/lang/invoke/VarHandle" := by decide +kernel
theorem npX0_errs : (parseMethodDescriptor yX0_errs.desc).map (fun d => d.parameters.length) = some 2 := by decide +kernel
theorem hyX0_errs : yX0_errs.cls ≠ "java/lang/invoke/MethodHandle" ∧ yX0_errs.cls ≠ "java/lang/invoke/VarHandle" := by decide +kernel
theorem npX0_tells : (parseMethodDescriptor yX0_tells.desc).map (fun d => d.parameters.length) = some 2 := by decide +kernel
theorem hyX0_tells : yX0_tells.cls ≠ "java/lang/invoke/MethodHandle" ∧ yX0_tells.cls ≠ "java/lang/invoke/VarHandle" := by decide +kernel
theorem npX1_note : (parseMethodDescriptor yX1_note.desc).map (fun d => d.parameters.length) = some 4 := by decide +kernel
theorem hyX1_note : yX1_note.cls ≠ "java/lang/invoke/MethodHandle" ∧ yX1_note.cls ≠ "java/lang/invoke/VarHandle" := by decide +kernel
theorem npX1_dropFirst : (parseMethodDescriptor yX1_dropFirst.desc).map (fun d => d.parameters.length) = some 0 := by decide +kernel
theorem hyX1_dropFirst : yX1_dropFirst.cls ≠ "java/lang/invoke/MethodHandle" ∧ yX1_dropFirst.cls ≠ "java/lang/invoke/VarHandle" := by decide +kernel
theorem npX1_undoOne : (parseMethodDescriptor yX1_undoOne.desc).map (fun d => d.parameters.length) = some 0 := by decide +kernel
theorem hyX1_undoOne : yX1_undoOne.cls ≠ "java/lang/invoke/MethodHandle" ∧ yX1_undoOne.cls ≠ "java/lang/invoke/VarHandle" := by decide +kernel
theorem npX1_redoOne : (parseMethodDescriptor yX1_redoOne.desc).map (fun d => d.parameters.length) = some 0 := by decide +kernel
theorem hyX1_redoOne : yX1_redoOne.cls ≠ "java/lang/invoke/MethodHandle" ∧ yX1_redoOne.cls ≠ "java/lang/invoke/VarHandle" := by decide +kernel
theorem npX2_refuse : (parseMethodDescriptor yX2_refuse.desc).map (fun d => d.parameters.length) = some 1 := by decide +kernel
theorem hyX2_refuse : yX2_refuse.cls ≠ "java/lang/invoke/MethodHandle" ∧ yX2_refuse.cls ≠ "java/lang/invoke/VarHandle" := by decide +kernel
theorem npX2_noteWire : (parseMethodDescriptor yX2_noteWire.desc).map (fun d => d.parameters.length) = some 2 := by decide +kernel
theorem hyX2_noteWire : yX2_noteWire.cls ≠ "java/lang/invoke/MethodHandle" ∧ yX2_noteWire.cls ≠ "java/lang/invoke/VarHandle" := by decide +kernel
theorem npX2_keepImage : (parseMethodDescriptor yX2_keepImage.desc).map (fun d => d.parameters.length) = some 0 := by decide +kernel
theorem hyX2_keepImage : yX2_keepImage.cls ≠ "java/lang/invoke/MethodHandle" ∧ yX2_keepImage.cls ≠ "java/lang/invoke/VarHandle" := by decide +kernel
theorem npX2_layBack : (parseMethodDescriptor yX2_layBack.desc).map (fun d => d.parameters.length) = some 0 := by decide +kernel
theorem hyX2_layBack : yX2_layBack.cls ≠ "java/lang/invoke/MethodHandle" ∧ yX2_layBack.cls ≠ "java/lang/invoke/VarHandle" := by decide +kernel
theorem npX3_size : (parseMethodDescriptor yX3_size.desc).map (fun d => d.parameters.length) = some 0 := by decide +kernel
theorem hyX3_size : yX3_size.cls ≠ "java/lang/invoke/MethodHandle" ∧ yX3_size.cls ≠ "java/lang/invoke/VarHandle" := by decide +kernel
theorem npX3_oddsOf : (parseMethodDescriptor yX3_oddsOf.desc).map (fun d => d.parameters.length) = some 2 := by decide +kernel
theorem hyX3_oddsOf : yX3_oddsOf.cls ≠ "java/lang/invoke/MethodHandle" ∧ yX3_oddsOf.cls ≠ "java/lang/invoke/VarHandle" := by decide +kernel
theorem npX3_begin : (parseMethodDescriptor yX3_begin.desc).map (fun d => d.parameters.length) = some 0 := by decide +kernel
theorem hyX3_begin : yX3_begin.cls ≠ "java/lang/invoke/MethodHandle" ∧ yX3_begin.cls ≠ "java/lang/invoke/VarHandle" := by decide +kernel
theorem npX3_swap : (parseMethodDescriptor yX3_swap.desc).map (fun d => d.parameters.length) = some 0 := by decide +kernel
theorem hyX3_swap : yX3_swap.cls ≠ "java/lang/invoke/MethodHandle" ∧ yX3_swap.cls ≠ "java/lang/invoke/VarHandle" := by decide +kernel
theorem npX3_sum : (parseMethodDescriptor yX3_sum.desc).map (fun d => d.parameters.length) = some 2 := by decide +kernel
theorem hyX3_sum : yX3_sum.cls ≠ "java/lang/invoke/MethodHandle" ∧ yX3_sum.cls ≠ "java/lang/invoke/VarHandle" := by decide +kernel
theorem npX3_addWord : (parseMethodDescriptor yX3_addWord.desc).map (fun d => d.parameters.length) = some 2 := by decide +kernel
theorem hyX3_addWord : yX3_addWord.cls ≠ "java/lang/invoke/MethodHandle" ∧ yX3_addWord.cls ≠ "java/lang/invoke/VarHandle" := by decide +kernel
theorem npX3_likeliest : (parseMethodDescriptor yX3_likeliest.desc).map (fun d => d.parameters.length) = some 1 := by decide +kernel
theorem hyX3_likeliest : yX3_likeliest.cls ≠ "java/lang/invoke/MethodHandle" ∧ yX3_likeliest.cls ≠ "java/lang/invoke/VarHandle" := by decide +kernel
theorem npX3_tryWord : (parseMethodDescriptor yX3_tryWord.desc).map (fun d => d.parameters.length) = some 2 := by decide +kernel
theorem hyX3_tryWord : yX3_tryWord.cls ≠ "java/lang/invoke/MethodHandle" ∧ yX3_tryWord.cls ≠ "java/lang/invoke/VarHandle" := by decide +kernel
theorem npX3_isAhead : (parseMethodDescriptor yX3_isAhead.desc).map (fun d => d.parameters.length) = some 4 := by decide +kernel
theorem hyX3_isAhead : yX3_isAhead.cls ≠ "java/lang/invoke/MethodHandle" ∧ yX3_isAhead.cls ≠ "java/lang/invoke/VarHandle" := by decide +kernel
theorem npX3_sure : (parseMethodDescriptor yX3_sure.desc).map (fun d => d.parameters.length) = some 0 := by decide +kernel
theorem hyX3_sure : yX3_sure.cls ≠ "java/lang/invoke/MethodHandle" ∧ yX3_sure.cls ≠ "java/lang/invoke/VarHandle" := by decide +kernel
theorem npX3_allOdds : (parseMethodDescriptor yX3_allOdds.desc).map (fun d => d.parameters.length) = some 0 := by decide +kernel
theorem hyX3_allOdds : yX3_allOdds.cls ≠ "java/lang/invoke/MethodHandle" ∧ yX3_allOdds.cls ≠ "java/lang/invoke/VarHandle" := by decide +kernel
theorem npX3_unharmed : (parseMethodDescriptor yX3_unharmed.desc).map (fun d => d.parameters.length) = some 0 := by decide +kernel
theorem hyX3_unharmed : yX3_unharmed.cls ≠ "java/lang/invoke/MethodHandle" ∧ yX3_unharmed.cls ≠ "java/lang/invoke/VarHandle" := by decide +kernel
theorem npX3_senseWith : (parseMethodDescriptor yX3_senseWith.desc).map (fun d => d.parameters.length) = some 1 := by decide +kernel
theorem hyX3_senseWith : yX3_senseWith.cls ≠ "java/lang/invoke/MethodHandle" ∧ yX3_senseWith.cls ≠ "java/lang/invoke/VarHandle" := by decide +kernel
theorem npX3_oddsWith : (parseMethodDescriptor yX3_oddsWith.desc).map (fun d => d.parameters.length) = some 1 := by decide +kernel
theorem hyX3_oddsWith : yX3_oddsWith.cls ≠ "java/lang/invoke/MethodHandle" ∧ yX3_oddsWith.cls ≠ "java/lang/invoke/VarHandle" := by decide +kernel
theorem npX3_draws : (parseMethodDescriptor yX3_draws.desc).map (fun d => d.parameters.length) = some 3 := by decide +kernel
theorem hyX3_draws : yX3_draws.cls ≠ "java/lang/invoke/MethodHandle" ∧ yX3_draws.cls ≠ "java/lang/invoke/VarHandle" := by decide +kernel
theorem npX4_feedOne : (parseMethodDescriptor yX4_feedOne.desc).map (fun d => d.parameters.length) = some 1 := by decide +kernel
theorem hyX4_feedOne : yX4_feedOne.cls ≠ "java/lang/invoke/MethodHandle" ∧ yX4_feedOne.cls ≠ "java/lang/invoke/VarHandle" := by decide +kernel
theorem npX4_adopt : (parseMethodDescriptor yX4_adopt.desc).map (fun d => d.parameters.length) = some 0 := by decide +kernel
theorem hyX4_adopt : yX4_adopt.cls ≠ "java/lang/invoke/MethodHandle" ∧ yX4_adopt.cls ≠ "java/lang/invoke/VarHandle" := by decide +kernel
theorem npX4_readText : (parseMethodDescriptor yX4_readText.desc).map (fun d => d.parameters.length) = some 0 := by decide +kernel
theorem hyX4_readText : yX4_readText.cls ≠ "java/lang/invoke/MethodHandle" ∧ yX4_readText.cls ≠ "java/lang/invoke/VarHandle" := by decide +kernel
theorem npX4_readLine : (parseMethodDescriptor yX4_readLine.desc).map (fun d => d.parameters.length) = some 0 := by decide +kernel
theorem hyX4_readLine : yX4_readLine.cls ≠ "java/lang/invoke/MethodHandle" ∧ yX4_readLine.cls ≠ "java/lang/invoke/VarHandle" := by decide +kernel
theorem npX4_readEither : (parseMethodDescriptor yX4_readEither.desc).map (fun d => d.parameters.length) = some 1 := by decide +kernel
theorem hyX4_readEither : yX4_readEither.cls ≠ "java/lang/invoke/MethodHandle" ∧ yX4_readEither.cls ≠ "java/lang/invoke/VarHandle" := by decide +kernel
theorem npX4_readBoth : (parseMethodDescriptor yX4_readBoth.desc).map (fun d => d.parameters.length) = some 1 := by decide +kernel
theorem hyX4_readBoth : yX4_readBoth.cls ≠ "java/lang/invoke/MethodHandle" ∧ yX4_readBoth.cls ≠ "java/lang/invoke/VarHandle" := by decide +kernel
theorem npX4_readCompared : (parseMethodDescriptor yX4_readCompared.desc).map (fun d => d.parameters.length) = some 1 := by decide +kernel
theorem hyX4_readCompared : yX4_readCompared.cls ≠ "java/lang/invoke/MethodHandle" ∧ yX4_readCompared.cls ≠ "java/lang/invoke/VarHandle" := by decide +kernel
theorem npX4_readSum : (parseMethodDescriptor yX4_readSum.desc).map (fun d => d.parameters.length) = some 1 := by decide +kernel
theorem hyX4_readSum : yX4_readSum.cls ≠ "java/lang/invoke/MethodHandle" ∧ yX4_readSum.cls ≠ "java/lang/invoke/VarHandle" := by decide +kernel
theorem npX4_readProduct : (parseMethodDescriptor yX4_readProduct.desc).map (fun d => d.parameters.length) = some 1 := by decide +kernel
theorem hyX4_readProduct : yX4_readProduct.cls ≠ "java/lang/invoke/MethodHandle" ∧ yX4_readProduct.cls ≠ "java/lang/invoke/VarHandle" := by decide +kernel
theorem npX4_readOperand : (parseMethodDescriptor yX4_readOperand.desc).map (fun d => d.parameters.length) = some 1 := by decide +kernel
theorem hyX4_readOperand : yX4_readOperand.cls ≠ "java/lang/invoke/MethodHandle" ∧ yX4_readOperand.cls ≠ "java/lang/invoke/VarHandle" := by decide +kernel
theorem npX4_readNumber : (parseMethodDescriptor yX4_readNumber.desc).map (fun d => d.parameters.length) = some 0 := by decide +kernel
theorem hyX4_readNumber : yX4_readNumber.cls ≠ "java/lang/invoke/MethodHandle" ∧ yX4_readNumber.cls ≠ "java/lang/invoke/VarHandle" := by decide +kernel
theorem npX4_isDigit : (parseMethodDescriptor yX4_isDigit.desc).map (fun d => d.parameters.length) = some 1 := by decide +kernel
theorem hyX4_isDigit : yX4_isDigit.cls ≠ "java/lang/invoke/MethodHandle" ∧ yX4_isDigit.cls ≠ "java/lang/invoke/VarHandle" := by decide +kernel
theorem npX4_next : (parseMethodDescriptor yX4_next.desc).map (fun d => d.parameters.length) = some 0 := by decide +kernel
theorem hyX4_next : yX4_next.cls ≠ "java/lang/invoke/MethodHandle" ∧ yX4_next.cls ≠ "java/lang/invoke/VarHandle" := by decide +kernel
theorem npX4_takes : (parseMethodDescriptor yX4_takes.desc).map (fun d => d.parameters.length) = some 1 := by decide +kernel
theorem hyX4_takes : yX4_takes.cls ≠ "java/lang/invoke/MethodHandle" ∧ yX4_takes.cls ≠ "java/lang/invoke/VarHandle" := by decide +kernel
theorem npX4_emit : (parseMethodDescriptor yX4_emit.desc).map (fun d => d.parameters.length) = some 1 := by decide +kernel
theorem hyX4_emit : yX4_emit.cls ≠ "java/lang/invoke/MethodHandle" ∧ yX4_emit.cls ≠ "java/lang/invoke/VarHandle" := by decide +kernel
theorem npX4_priceOf : (parseMethodDescriptor yX4_priceOf.desc).map (fun d => d.parameters.length) = some 3 := by decide +kernel
theorem hyX4_priceOf : yX4_priceOf.cls ≠ "java/lang/invoke/MethodHandle" ∧ yX4_priceOf.cls ≠ "java/lang/invoke/VarHandle" := by decide +kernel
theorem npX4_worked : (parseMethodDescriptor yX4_worked.desc).map (fun d => d.parameters.length) = some 0 := by decide +kernel
theorem hyX4_worked : yX4_worked.cls ≠ "java/lang/invoke/MethodHandle" ∧ yX4_worked.cls ≠ "java/lang/invoke/VarHandle" := by decide +kernel
theorem npX4_workedOut : (parseMethodDescriptor yX4_workedOut.desc).map (fun d => d.parameters.length) = some 3 := by decide +kernel
theorem hyX4_workedOut : yX4_workedOut.cls ≠ "java/lang/invoke/MethodHandle" ∧ yX4_workedOut.cls ≠ "java/lang/invoke/VarHandle" := by decide +kernel
theorem npX4_push : (parseMethodDescriptor yX4_push.desc).map (fun d => d.parameters.length) = some 1 := by decide +kernel
theorem hyX4_push : yX4_push.cls ≠ "java/lang/invoke/MethodHandle" ∧ yX4_push.cls ≠ "java/lang/invoke/VarHandle" := by decide +kernel
theorem npX4_pop : (parseMethodDescriptor yX4_pop.desc).map (fun d => d.parameters.length) = some 0 := by decide +kernel
theorem hyX4_pop : yX4_pop.cls ≠ "java/lang/invoke/MethodHandle" ∧ yX4_pop.cls ≠ "java/lang/invoke/VarHandle" := by decide +kernel
theorem npX5_has : (parseMethodDescriptor yX5_has.desc).map (fun d => d.parameters.length) = some 2 := by decide +kernel
theorem hyX5_has : yX5_has.cls ≠ "java/lang/invoke/MethodHandle" ∧ yX5_has.cls ≠ "java/lang/invoke/VarHandle" := by decide +kernel
theorem npX5_fits : (parseMethodDescriptor yX5_fits.desc).map (fun d => d.parameters.length) = some 2 := by decide +kernel
theorem hyX5_fits : yX5_fits.cls ≠ "java/lang/invoke/MethodHandle" ∧ yX5_fits.cls ≠ "java/lang/invoke/VarHandle" := by decide +kernel
theorem npX5_value : (parseMethodDescriptor yX5_value.desc).map (fun d => d.parameters.length) = some 2 := by decide +kernel
theorem hyX5_value : yX5_value.cls ≠ "java/lang/invoke/MethodHandle" ∧ yX5_value.cls ≠ "java/lang/invoke/VarHandle" := by decide +kernel
theorem npX5_set : (parseMethodDescriptor yX5_set.desc).map (fun d => d.parameters.length) = some 3 := by decide +kernel
theorem hyX5_set : yX5_set.cls ≠ "java/lang/invoke/MethodHandle" ∧ yX5_set.cls ≠ "java/lang/invoke/VarHandle" := by decide +kernel
theorem npX5_addWord : (parseMethodDescriptor yX5_addWord.desc).map (fun d => d.parameters.length) = some 3 := by decide +kernel
theorem hyX5_addWord : yX5_addWord.cls ≠ "java/lang/invoke/MethodHandle" ∧ yX5_addWord.cls ≠ "java/lang/invoke/VarHandle" := by decide +kernel
theorem npX5_addPerson : (parseMethodDescriptor yX5_addPerson.desc).map (fun d => d.parameters.length) = some 1 := by decide +kernel
theorem hyX5_addPerson : yX5_addPerson.cls ≠ "java/lang/invoke/MethodHandle" ∧ yX5_addPerson.cls ≠ "java/lang/invoke/VarHandle" := by decide +kernel
theorem npX6_priceIn : (parseMethodDescriptor yX6_priceIn.desc).map (fun d => d.parameters.length) = some 1 := by decide +kernel
theorem hyX6_priceIn : yX6_priceIn.cls ≠ "java/lang/invoke/MethodHandle" ∧ yX6_priceIn.cls ≠ "java/lang/invoke/VarHandle" := by decide +kernel
theorem npX6_manyIn : (parseMethodDescriptor yX6_manyIn.desc).map (fun d => d.parameters.length) = some 1 := by decide +kernel
theorem hyX6_manyIn : yX6_manyIn.cls ≠ "java/lang/invoke/MethodHandle" ∧ yX6_manyIn.cls ≠ "java/lang/invoke/VarHandle" := by decide +kernel
theorem npX6_wordIn : (parseMethodDescriptor yX6_wordIn.desc).map (fun d => d.parameters.length) = some 2 := by decide +kernel
theorem hyX6_wordIn : yX6_wordIn.cls ≠ "java/lang/invoke/MethodHandle" ∧ yX6_wordIn.cls ≠ "java/lang/invoke/VarHandle" := by decide +kernel
theorem npX6_cheapest : (parseMethodDescriptor yX6_cheapest.desc).map (fun d => d.parameters.length) = some 2 := by decide +kernel
theorem hyX6_cheapest : yX6_cheapest.cls ≠ "java/lang/invoke/MethodHandle" ∧ yX6_cheapest.cls ≠ "java/lang/invoke/VarHandle" := by decide +kernel
theorem npX6_widest : (parseMethodDescriptor yX6_widest.desc).map (fun d => d.parameters.length) = some 1 := by decide +kernel
theorem hyX6_widest : yX6_widest.cls ≠ "java/lang/invoke/MethodHandle" ∧ yX6_widest.cls ≠ "java/lang/invoke/VarHandle" := by decide +kernel
theorem npX6_within : (parseMethodDescriptor yX6_within.desc).map (fun d => d.parameters.length) = some 1 := by decide +kernel
theorem hyX6_within : yX6_within.cls ≠ "java/lang/invoke/MethodHandle" ∧ yX6_within.cls ≠ "java/lang/invoke/VarHandle" := by decide +kernel
theorem npX6_isFor : (parseMethodDescriptor yX6_isFor.desc).map (fun d => d.parameters.length) = some 2 := by decide +kernel
theorem hyX6_isFor : yX6_isFor.cls ≠ "java/lang/invoke/MethodHandle" ∧ yX6_isFor.cls ≠ "java/lang/invoke/VarHandle" := by decide +kernel
theorem npX6_firstOf : (parseMethodDescriptor yX6_firstOf.desc).map (fun d => d.parameters.length) = some 2 := by decide +kernel
theorem hyX6_firstOf : yX6_firstOf.cls ≠ "java/lang/invoke/MethodHandle" ∧ yX6_firstOf.cls ≠ "java/lang/invoke/VarHandle" := by decide +kernel
theorem npX6_refresh : (parseMethodDescriptor yX6_refresh.desc).map (fun d => d.parameters.length) = some 0 := by decide +kernel
theorem hyX6_refresh : yX6_refresh.cls ≠ "java/lang/invoke/MethodHandle" ∧ yX6_refresh.cls ≠ "java/lang/invoke/VarHandle" := by decide +kernel
theorem npX6_lengthen : (parseMethodDescriptor yX6_lengthen.desc).map (fun d => d.parameters.length) = some 3 := by decide +kernel
theorem hyX6_lengthen : yX6_lengthen.cls ≠ "java/lang/invoke/MethodHandle" ∧ yX6_lengthen.cls ≠ "java/lang/invoke/VarHandle" := by decide +kernel
theorem npX6_settle : (parseMethodDescriptor yX6_settle.desc).map (fun d => d.parameters.length) = some 1 := by decide +kernel
theorem hyX6_settle : yX6_settle.cls ≠ "java/lang/invoke/MethodHandle" ∧ yX6_settle.cls ≠ "java/lang/invoke/VarHandle" := by decide +kernel
theorem npX7_has : (parseMethodDescriptor yX7_has.desc).map (fun d => d.parameters.length) = some 1 := by decide +kernel
theorem hyX7_has : yX7_has.cls ≠ "java/lang/invoke/MethodHandle" ∧ yX7_has.cls ≠ "java/lang/invoke/VarHandle" := by decide +kernel
theorem npX7_refusal : (parseMethodDescriptor yX7_refusal.desc).map (fun d => d.parameters.length) = some 2 := by decide +kernel
theorem hyX7_refusal : yX7_refusal.cls ≠ "java/lang/invoke/MethodHandle" ∧ yX7_refusal.cls ≠ "java/lang/invoke/VarHandle" := by decide +kernel
theorem npX7_placeRefusal : (parseMethodDescriptor yX7_placeRefusal.desc).map (fun d => d.parameters.length) = some 2 := by decide +kernel
theorem hyX7_placeRefusal : yX7_placeRefusal.cls ≠ "java/lang/invoke/MethodHandle" ∧ yX7_placeRefusal.cls ≠ "java/lang/invoke/VarHandle" := by decide +kernel
theorem npX7_sizeOf : (parseMethodDescriptor yX7_sizeOf.desc).map (fun d => d.parameters.length) = some 1 := by decide +kernel
theorem hyX7_sizeOf : yX7_sizeOf.cls ≠ "java/lang/invoke/MethodHandle" ∧ yX7_sizeOf.cls ≠ "java/lang/invoke/VarHandle" := by decide +kernel
theorem npX7_bodyOn : (parseMethodDescriptor yX7_bodyOn.desc).map (fun d => d.parameters.length) = some 1 := by decide +kernel
theorem hyX7_bodyOn : yX7_bodyOn.cls ≠ "java/lang/invoke/MethodHandle" ∧ yX7_bodyOn.cls ≠ "java/lang/invoke/VarHandle" := by decide +kernel
theorem npX7_hold : (parseMethodDescriptor yX7_hold.desc).map (fun d => d.parameters.length) = some 2 := by decide +kernel
theorem hyX7_hold : yX7_hold.cls ≠ "java/lang/invoke/MethodHandle" ∧ yX7_hold.cls ≠ "java/lang/invoke/VarHandle" := by decide +kernel
theorem npX7_lay : (parseMethodDescriptor yX7_lay.desc).map (fun d => d.parameters.length) = some 3 := by decide +kernel
theorem hyX7_lay : yX7_lay.cls ≠ "java/lang/invoke/MethodHandle" ∧ yX7_lay.cls ≠ "java/lang/invoke/VarHandle" := by decide +kernel
theorem npX7_at : (parseMethodDescriptor yX7_at.desc).map (fun d => d.parameters.length) = some 2 := by decide +kernel
theorem hyX7_at : yX7_at.cls ≠ "java/lang/invoke/MethodHandle" ∧ yX7_at.cls ≠ "java/lang/invoke/VarHandle" := by decide +kernel
theorem npX7_store : (parseMethodDescriptor yX7_store.desc).map (fun d => d.parameters.length) = some 3 := by decide +kernel
theorem hyX7_store : yX7_store.cls ≠ "java/lang/invoke/MethodHandle" ∧ yX7_store.cls ≠ "java/lang/invoke/VarHandle" := by decide +kernel
theorem npX7_cut : (parseMethodDescriptor yX7_cut.desc).map (fun d => d.parameters.length) = some 2 := by decide +kernel
theorem hyX7_cut : yX7_cut.cls ≠ "java/lang/invoke/MethodHandle" ∧ yX7_cut.cls ≠ "java/lang/invoke/VarHandle" := by decide +kernel
theorem npX7_move : (parseMethodDescriptor yX7_move.desc).map (fun d => d.parameters.length) = some 5 := by decide +kernel
theorem hyX7_move : yX7_move.cls ≠ "java/lang/invoke/MethodHandle" ∧ yX7_move.cls ≠ "java/lang/invoke/VarHandle" := by decide +kernel
theorem npX8_read : (parseMethodDescriptor yX8_read.desc).map (fun d => d.parameters.length) = some 2 := by decide +kernel
theorem hyX8_read : yX8_read.cls ≠ "java/lang/invoke/MethodHandle" ∧ yX8_read.cls ≠ "java/lang/invoke/VarHandle" := by decide +kernel
theorem npX8_wordAt : (parseMethodDescriptor yX8_wordAt.desc).map (fun d => d.parameters.length) = some 1 := by decide +kernel
theorem hyX8_wordAt : yX8_wordAt.cls ≠ "java/lang/invoke/MethodHandle" ∧ yX8_wordAt.cls ≠ "java/lang/invoke/VarHandle" := by decide +kernel
theorem npX8_costs : (parseMethodDescriptor yX8_costs.desc).map (fun d => d.parameters.length) = some 0 := by decide +kernel
theorem hyX8_costs : yX8_costs.cls ≠ "java/lang/invoke/MethodHandle" ∧ yX8_costs.cls ≠ "java/lang/invoke/VarHandle" := by decide +kernel
theorem npX8_senseOf : (parseMethodDescriptor yX8_senseOf.desc).map (fun d => d.parameters.length) = some 0 := by decide +kernel
theorem hyX8_senseOf : yX8_senseOf.cls ≠ "java/lang/invoke/MethodHandle" ∧ yX8_senseOf.cls ≠ "java/lang/invoke/VarHandle" := by decide +kernel
theorem npX8_senseOfFirst : (parseMethodDescriptor yX8_senseOfFirst.desc).map (fun d => d.parameters.length) = some 1 := by decide +kernel
theorem hyX8_senseOfFirst : yX8_senseOfFirst.cls ≠ "java/lang/invoke/MethodHandle" ∧ yX8_senseOfFirst.cls ≠ "java/lang/invoke/VarHandle" := by decide +kernel
theorem npX8_isRight : (parseMethodDescriptor yX8_isRight.desc).map (fun d => d.parameters.length) = some 0 := by decide +kernel
theorem hyX8_isRight : yX8_isRight.cls ≠ "java/lang/invoke/MethodHandle" ∧ yX8_isRight.cls ≠ "java/lang/invoke/VarHandle" := by decide +kernel
theorem npX8_follows : (parseMethodDescriptor yX8_follows.desc).map (fun d => d.parameters.length) = some 2 := by decide +kernel
theorem hyX8_follows : yX8_follows.cls ≠ "java/lang/invoke/MethodHandle" ∧ yX8_follows.cls ≠ "java/lang/invoke/VarHandle" := by decide +kernel
theorem npX8_mayEnd : (parseMethodDescriptor yX8_mayEnd.desc).map (fun d => d.parameters.length) = some 1 := by decide +kernel
theorem hyX8_mayEnd : yX8_mayEnd.cls ≠ "java/lang/invoke/MethodHandle" ∧ yX8_mayEnd.cls ≠ "java/lang/invoke/VarHandle" := by decide +kernel
theorem npX8_joinedPrice : (parseMethodDescriptor yX8_joinedPrice.desc).map (fun d => d.parameters.length) = some 0 := by decide +kernel
theorem hyX8_joinedPrice : yX8_joinedPrice.cls ≠ "java/lang/invoke/MethodHandle" ∧ yX8_joinedPrice.cls ≠ "java/lang/invoke/VarHandle" := by decide +kernel
theorem npX8_joinedRuns : (parseMethodDescriptor yX8_joinedRuns.desc).map (fun d => d.parameters.length) = some 0 := by decide +kernel
theorem hyX8_joinedRuns : yX8_joinedRuns.cls ≠ "java/lang/invoke/MethodHandle" ∧ yX8_joinedRuns.cls ≠ "java/lang/invoke/VarHandle" := by decide +kernel
theorem npX8_joined : (parseMethodDescriptor yX8_joined.desc).map (fun d => d.parameters.length) = some 0 := by decide +kernel
theorem hyX8_joined : yX8_joined.cls ≠ "java/lang/invoke/MethodHandle" ∧ yX8_joined.cls ≠ "java/lang/invoke/VarHandle" := by decide +kernel
theorem npX9_word : (parseMethodDescriptor yX9_word.desc).map (fun d => d.parameters.length) = some 2 := by decide +kernel
theorem hyX9_word : yX9_word.cls ≠ "java/lang/invoke/MethodHandle" ∧ yX9_word.cls ≠ "java/lang/invoke/VarHandle" := by decide +kernel
theorem npX9_words : (parseMethodDescriptor yX9_words.desc).map (fun d => d.parameters.length) = some 3 := by decide +kernel
theorem hyX9_words : yX9_words.cls ≠ "java/lang/invoke/MethodHandle" ∧ yX9_words.cls ≠ "java/lang/invoke/VarHandle" := by decide +kernel
theorem npX9_wordFrom : (parseMethodDescriptor yX9_wordFrom.desc).map (fun d => d.parameters.length) = some 2 := by decide +kernel
theorem hyX9_wordFrom : yX9_wordFrom.cls ≠ "java/lang/invoke/MethodHandle" ∧ yX9_wordFrom.cls ≠ "java/lang/invoke/VarHandle" := by decide +kernel
theorem npX9_person : (parseMethodDescriptor yX9_person.desc).map (fun d => d.parameters.length) = some 1 := by decide +kernel
theorem hyX9_person : yX9_person.cls ≠ "java/lang/invoke/MethodHandle" ∧ yX9_person.cls ≠ "java/lang/invoke/VarHandle" := by decide +kernel
theorem npX9_mend : (parseMethodDescriptor yX9_mend.desc).map (fun d => d.parameters.length) = some 3 := by decide +kernel
theorem hyX9_mend : yX9_mend.cls ≠ "java/lang/invoke/MethodHandle" ∧ yX9_mend.cls ≠ "java/lang/invoke/VarHandle" := by decide +kernel
theorem npX9_of : (parseMethodDescriptor yX9_of.desc).map (fun d => d.parameters.length) = some 2 := by decide +kernel
theorem hyX9_of : yX9_of.cls ≠ "java/lang/invoke/MethodHandle" ∧ yX9_of.cls ≠ "java/lang/invoke/VarHandle" := by decide +kernel
theorem npX9_feed : (parseMethodDescriptor yX9_feed.desc).map (fun d => d.parameters.length) = some 1 := by decide +kernel
theorem hyX9_feed : yX9_feed.cls ≠ "java/lang/invoke/MethodHandle" ∧ yX9_feed.cls ≠ "java/lang/invoke/VarHandle" := by decide +kernel
theorem npX9_law : (parseMethodDescriptor yX9_law.desc).map (fun d => d.parameters.length) = some 0 := by decide +kernel
theorem hyX9_law : yX9_law.cls ≠ "java/lang/invoke/MethodHandle" ∧ yX9_law.cls ≠ "java/lang/invoke/VarHandle" := by decide +kernel
theorem npX9_price : (parseMethodDescriptor yX9_price.desc).map (fun d => d.parameters.length) = some 2 := by decide +kernel
theorem hyX9_price : yX9_price.cls ≠ "java/lang/invoke/MethodHandle" ∧ yX9_price.cls ≠ "java/lang/invoke/VarHandle" := by decide +kernel
theorem npX9_wire : (parseMethodDescriptor yX9_wire.desc).map (fun d => d.parameters.length) = some 2 := by decide +kernel
theorem hyX9_wire : yX9_wire.cls ≠ "java/lang/invoke/MethodHandle" ∧ yX9_wire.cls ≠ "java/lang/invoke/VarHandle" := by decide +kernel
theorem npX9_opened : (parseMethodDescriptor yX9_opened.desc).map (fun d => d.parameters.length) = some 1 := by decide +kernel
theorem hyX9_opened : yX9_opened.cls ≠ "java/lang/invoke/MethodHandle" ∧ yX9_opened.cls ≠ "java/lang/invoke/VarHandle" := by decide +kernel
theorem npX9_say : (parseMethodDescriptor yX9_say.desc).map (fun d => d.parameters.length) = some 2 := by decide +kernel
theorem hyX9_say : yX9_say.cls ≠ "java/lang/invoke/MethodHandle" ∧ yX9_say.cls ≠ "java/lang/invoke/VarHandle" := by decide +kernel
theorem npX9_allFor : (parseMethodDescriptor yX9_allFor.desc).map (fun d => d.parameters.length) = some 2 := by decide +kernel
theorem hyX9_allFor : yX9_allFor.cls ≠ "java/lang/invoke/MethodHandle" ∧ yX9_allFor.cls ≠ "java/lang/invoke/VarHandle" := by decide +kernel
theorem npX9_tooDear : (parseMethodDescriptor yX9_tooDear.desc).map (fun d => d.parameters.length) = some 1 := by decide +kernel
theorem hyX9_tooDear : yX9_tooDear.cls ≠ "java/lang/invoke/MethodHandle" ∧ yX9_tooDear.cls ≠ "java/lang/invoke/VarHandle" := by decide +kernel
theorem npX9_year : (parseMethodDescriptor yX9_year.desc).map (fun d => d.parameters.length) = some 3 := by decide +kernel
theorem hyX9_year : yX9_year.cls ≠ "java/lang/invoke/MethodHandle" ∧ yX9_year.cls ≠ "java/lang/invoke/VarHandle" := by decide +kernel
theorem npX9_offersOn : (parseMethodDescriptor yX9_offersOn.desc).map (fun d => d.parameters.length) = some 1 := by decide +kernel
theorem hyX9_offersOn : yX9_offersOn.cls ≠ "java/lang/invoke/MethodHandle" ∧ yX9_offersOn.cls ≠ "java/lang/invoke/VarHandle" := by decide +kernel
theorem npX9_bestYear : (parseMethodDescriptor yX9_bestYear.desc).map (fun d => d.parameters.length) = some 2 := by decide +kernel
theorem hyX9_bestYear : yX9_bestYear.cls ≠ "java/lang/invoke/MethodHandle" ∧ yX9_bestYear.cls ≠ "java/lang/invoke/VarHandle" := by decide +kernel
theorem npX9_sumOf : (parseMethodDescriptor yX9_sumOf.desc).map (fun d => d.parameters.length) = some 3 := by decide +kernel
theorem hyX9_sumOf : yX9_sumOf.cls ≠ "java/lang/invoke/MethodHandle" ∧ yX9_sumOf.cls ≠ "java/lang/invoke/VarHandle" := by decide +kernel
theorem npX9_came : (parseMethodDescriptor yX9_came.desc).map (fun d => d.parameters.length) = some 1 := by decide +kernel
theorem hyX9_came : yX9_came.cls ≠ "java/lang/invoke/MethodHandle" ∧ yX9_came.cls ≠ "java/lang/invoke/VarHandle" := by decide +kernel
theorem npX9_cameAs : (parseMethodDescriptor yX9_cameAs.desc).map (fun d => d.parameters.length) = some 2 := by decide +kernel
theorem hyX9_cameAs : yX9_cameAs.cls ≠ "java/lang/invoke/MethodHandle" ∧ yX9_cameAs.cls ≠ "java/lang/invoke/VarHandle" := by decide +kernel
theorem npX9_meant : (parseMethodDescriptor yX9_meant.desc).map (fun d => d.parameters.length) = some 3 := by decide +kernel
theorem hyX9_meant : yX9_meant.cls ≠ "java/lang/invoke/MethodHandle" ∧ yX9_meant.cls ≠ "java/lang/invoke/VarHandle" := by decide +kernel
theorem npX9_certain : (parseMethodDescriptor yX9_certain.desc).map (fun d => d.parameters.length) = some 1 := by decide +kernel
theorem hyX9_certain : yX9_certain.cls ≠ "java/lang/invoke/MethodHandle" ∧ yX9_certain.cls ≠ "java/lang/invoke/VarHandle" := by decide +kernel
theorem npX9_safe : (parseMethodDescriptor yX9_safe.desc).map (fun d => d.parameters.length) = some 2 := by decide +kernel
theorem hyX9_safe : yX9_safe.cls ≠ "java/lang/invoke/MethodHandle" ∧ yX9_safe.cls ≠ "java/lang/invoke/VarHandle" := by decide +kernel
theorem npX9_unsigned : (parseMethodDescriptor yX9_unsigned.desc).map (fun d => d.parameters.length) = some 2 := by decide +kernel
theorem hyX9_unsigned : yX9_unsigned.cls ≠ "java/lang/invoke/MethodHandle" ∧ yX9_unsigned.cls ≠ "java/lang/invoke/VarHandle" := by decide +kernel
theorem npX9_maySend : (parseMethodDescriptor yX9_maySend.desc).map (fun d => d.parameters.length) = some 3 := by decide +kernel
theorem hyX9_maySend : yX9_maySend.cls ≠ "java/lang/invoke/MethodHandle" ∧ yX9_maySend.cls ≠ "java/lang/invoke/VarHandle" := by decide +kernel
theorem npX9_club : (parseMethodDescriptor yX9_club.desc).map (fun d => d.parameters.length) = some 3 := by decide +kernel
theorem hyX9_club : yX9_club.cls ≠ "java/lang/invoke/MethodHandle" ∧ yX9_club.cls ≠ "java/lang/invoke/VarHandle" := by decide +kernel
theorem npX9_isIn : (parseMethodDescriptor yX9_isIn.desc).map (fun d => d.parameters.length) = some 2 := by decide +kernel
theorem hyX9_isIn : yX9_isIn.cls ≠ "java/lang/invoke/MethodHandle" ∧ yX9_isIn.cls ≠ "java/lang/invoke/VarHandle" := by decide +kernel
theorem npX9_shareOf : (parseMethodDescriptor yX9_shareOf.desc).map (fun d => d.parameters.length) = some 3 := by decide +kernel
theorem hyX9_shareOf : yX9_shareOf.cls ≠ "java/lang/invoke/MethodHandle" ∧ yX9_shareOf.cls ≠ "java/lang/invoke/VarHandle" := by decide +kernel
theorem npX9_lacks : (parseMethodDescriptor yX9_lacks.desc).map (fun d => d.parameters.length) = some 1 := by decide +kernel
theorem hyX9_lacks : yX9_lacks.cls ≠ "java/lang/invoke/MethodHandle" ∧ yX9_lacks.cls ≠ "java/lang/invoke/VarHandle" := by decide +kernel
theorem npX9_wordless : (parseMethodDescriptor yX9_wordless.desc).map (fun d => d.parameters.length) = some 0 := by decide +kernel
theorem hyX9_wordless : yX9_wordless.cls ≠ "java/lang/invoke/MethodHandle" ∧ yX9_wordless.cls ≠ "java/lang/invoke/VarHandle" := by decide +kernel
theorem npX9_dearest : (parseMethodDescriptor yX9_dearest.desc).map (fun d => d.parameters.length) = some 0 := by decide +kernel
theorem hyX9_dearest : yX9_dearest.cls ≠ "java/lang/invoke/MethodHandle" ∧ yX9_dearest.cls ≠ "java/lang/invoke/VarHandle" := by decide +kernel
theorem npX9_drawn : (parseMethodDescriptor yX9_drawn.desc).map (fun d => d.parameters.length) = some 3 := by decide +kernel
theorem hyX9_drawn : yX9_drawn.cls ≠ "java/lang/invoke/MethodHandle" ∧ yX9_drawn.cls ≠ "java/lang/invoke/VarHandle" := by decide +kernel
theorem npX9_send : (parseMethodDescriptor yX9_send.desc).map (fun d => d.parameters.length) = some 2 := by decide +kernel
theorem hyX9_send : yX9_send.cls ≠ "java/lang/invoke/MethodHandle" ∧ yX9_send.cls ≠ "java/lang/invoke/VarHandle" := by decide +kernel
theorem npX9_night : (parseMethodDescriptor yX9_night.desc).map (fun d => d.parameters.length) = some 0 := by decide +kernel
theorem hyX9_night : yX9_night.cls ≠ "java/lang/invoke/MethodHandle" ∧ yX9_night.cls ≠ "java/lang/invoke/VarHandle" := by decide +kernel
theorem npX9_led : (parseMethodDescriptor yX9_led.desc).map (fun d => d.parameters.length) = some 1 := by decide +kernel
theorem hyX9_led : yX9_led.cls ≠ "java/lang/invoke/MethodHandle" ∧ yX9_led.cls ≠ "java/lang/invoke/VarHandle" := by decide +kernel
theorem npX9_image : (parseMethodDescriptor yX9_image.desc).map (fun d => d.parameters.length) = some 0 := by decide +kernel
theorem hyX9_image : yX9_image.cls ≠ "java/lang/invoke/MethodHandle" ∧ yX9_image.cls ≠ "java/lang/invoke/VarHandle" := by decide +kernel
theorem npX9_back : (parseMethodDescriptor yX9_back.desc).map (fun d => d.parameters.length) = some 0 := by decide +kernel
theorem hyX9_back : yX9_back.cls ≠ "java/lang/invoke/MethodHandle" ∧ yX9_back.cls ≠ "java/lang/invoke/VarHandle" := by decide +kernel
theorem npX9_undo : (parseMethodDescriptor yX9_undo.desc).map (fun d => d.parameters.length) = some 0 := by decide +kernel
theorem hyX9_undo : yX9_undo.cls ≠ "java/lang/invoke/MethodHandle" ∧ yX9_undo.cls ≠ "java/lang/invoke/VarHandle" := by decide +kernel
theorem npX9_redo : (parseMethodDescriptor yX9_redo.desc).map (fun d => d.parameters.length) = some 0 := by decide +kernel
theorem hyX9_redo : yX9_redo.cls ≠ "java/lang/invoke/MethodHandle" ∧ yX9_redo.cls ≠ "java/lang/invoke/VarHandle" := by decide +kernel
theorem npX9_body : (parseMethodDescriptor yX9_body.desc).map (fun d => d.parameters.length) = some 1 := by decide +kernel
theorem hyX9_body : yX9_body.cls ≠ "java/lang/invoke/MethodHandle" ∧ yX9_body.cls ≠ "java/lang/invoke/VarHandle" := by decide +kernel
theorem npX9_act : (parseMethodDescriptor yX9_act.desc).map (fun d => d.parameters.length) = some 3 := by decide +kernel
theorem hyX9_act : yX9_act.cls ≠ "java/lang/invoke/MethodHandle" ∧ yX9_act.cls ≠ "java/lang/invoke/VarHandle" := by decide +kernel
theorem npX9_trace : (parseMethodDescriptor yX9_trace.desc).map (fun d => d.parameters.length) = some 1 := by decide +kernel
theorem hyX9_trace : yX9_trace.cls ≠ "java/lang/invoke/MethodHandle" ∧ yX9_trace.cls ≠ "java/lang/invoke/VarHandle" := by decide +kernel
theorem npX9_keep : (parseMethodDescriptor yX9_keep.desc).map (fun d => d.parameters.length) = some 2 := by decide +kernel
theorem hyX9_keep : yX9_keep.cls ≠ "java/lang/invoke/MethodHandle" ∧ yX9_keep.cls ≠ "java/lang/invoke/VarHandle" := by decide +kernel
theorem npX9_row : (parseMethodDescriptor yX9_row.desc).map (fun d => d.parameters.length) = some 3 := by decide +kernel
theorem hyX9_row : yX9_row.cls ≠ "java/lang/invoke/MethodHandle" ∧ yX9_row.cls ≠ "java/lang/invoke/VarHandle" := by decide +kernel
theorem npX9_put : (parseMethodDescriptor yX9_put.desc).map (fun d => d.parameters.length) = some 3 := by decide +kernel
theorem hyX9_put : yX9_put.cls ≠ "java/lang/invoke/MethodHandle" ∧ yX9_put.cls ≠ "java/lang/invoke/VarHandle" := by decide +kernel
theorem npX9_element : (parseMethodDescriptor yX9_element.desc).map (fun d => d.parameters.length) = some 2 := by decide +kernel
theorem hyX9_element : yX9_element.cls ≠ "java/lang/invoke/MethodHandle" ∧ yX9_element.cls ≠ "java/lang/invoke/VarHandle" := by decide +kernel
theorem npX9_shift : (parseMethodDescriptor yX9_shift.desc).map (fun d => d.parameters.length) = some 5 := by decide +kernel
theorem hyX9_shift : yX9_shift.cls ≠ "java/lang/invoke/MethodHandle" ∧ yX9_shift.cls ≠ "java/lang/invoke/VarHandle" := by decide +kernel
theorem npX9_taken : (parseMethodDescriptor yX9_taken.desc).map (fun d => d.parameters.length) = some 2 := by decide +kernel
theorem hyX9_taken : yX9_taken.cls ≠ "java/lang/invoke/MethodHandle" ∧ yX9_taken.cls ≠ "java/lang/invoke/VarHandle" := by decide +kernel
theorem npX9_count : (parseMethodDescriptor yX9_count.desc).map (fun d => d.parameters.length) = some 1 := by decide +kernel
theorem hyX9_count : yX9_count.cls ≠ "java/lang/invoke/MethodHandle" ∧ yX9_count.cls ≠ "java/lang/invoke/VarHandle" := by decide +kernel
theorem npX9_between : (parseMethodDescriptor yX9_between.desc).map (fun d => d.parameters.length) = some 3 := by decide +kernel
theorem hyX9_between : yX9_between.cls ≠ "java/lang/invoke/MethodHandle" ∧ yX9_between.cls ≠ "java/lang/invoke/VarHandle" := by decide +kernel
theorem npX9_inLowest : (parseMethodDescriptor yX9_inLowest.desc).map (fun d => d.parameters.length) = some 3 := by decide +kernel
theorem hyX9_inLowest : yX9_inLowest.cls ≠ "java/lang/invoke/MethodHandle" ∧ yX9_inLowest.cls ≠ "java/lang/invoke/VarHandle" := by decide +kernel
theorem npX10_in : (parseMethodDescriptor yX10_in.desc).map (fun d => d.parameters.length) = some 3 := by decide +kernel
theorem hyX10_in : yX10_in.cls ≠ "java/lang/invoke/MethodHandle" ∧ yX10_in.cls ≠ "java/lang/invoke/VarHandle" := by decide +kernel
theorem npX10_bitsOf : (parseMethodDescriptor yX10_bitsOf.desc).map (fun d => d.parameters.length) = some 1 := by decide +kernel
theorem hyX10_bitsOf : yX10_bitsOf.cls ≠ "java/lang/invoke/MethodHandle" ∧ yX10_bitsOf.cls ≠ "java/lang/invoke/VarHandle" := by decide +kernel
theorem npX10_isWord : (parseMethodDescriptor yX10_isWord.desc).map (fun d => d.parameters.length) = some 1 := by decide +kernel
theorem hyX10_isWord : yX10_isWord.cls ≠ "java/lang/invoke/MethodHandle" ∧ yX10_isWord.cls ≠ "java/lang/invoke/VarHandle" := by decide +kernel
theorem npX10_isPerson : (parseMethodDescriptor yX10_isPerson.desc).map (fun d => d.parameters.length) = some 1 := by decide +kernel
theorem hyX10_isPerson : yX10_isPerson.cls ≠ "java/lang/invoke/MethodHandle" ∧ yX10_isPerson.cls ≠ "java/lang/invoke/VarHandle" := by decide +kernel
theorem npX10_addWord : (parseMethodDescriptor yX10_addWord.desc).map (fun d => d.parameters.length) = some 3 := by decide +kernel
theorem hyX10_addWord : yX10_addWord.cls ≠ "java/lang/invoke/MethodHandle" ∧ yX10_addWord.cls ≠ "java/lang/invoke/VarHandle" := by decide +kernel
theorem npX10_word : (parseMethodDescriptor yX10_word.desc).map (fun d => d.parameters.length) = some 2 := by decide +kernel
theorem hyX10_word : yX10_word.cls ≠ "java/lang/invoke/MethodHandle" ∧ yX10_word.cls ≠ "java/lang/invoke/VarHandle" := by decide +kernel
theorem npX10_words : (parseMethodDescriptor yX10_words.desc).map (fun d => d.parameters.length) = some 3 := by decide +kernel
theorem hyX10_words : yX10_words.cls ≠ "java/lang/invoke/MethodHandle" ∧ yX10_words.cls ≠ "java/lang/invoke/VarHandle" := by decide +kernel
theorem npX10_person : (parseMethodDescriptor yX10_person.desc).map (fun d => d.parameters.length) = some 1 := by decide +kernel
theorem hyX10_person : yX10_person.cls ≠ "java/lang/invoke/MethodHandle" ∧ yX10_person.cls ≠ "java/lang/invoke/VarHandle" := by decide +kernel
theorem npX10_valueAt : (parseMethodDescriptor yX10_valueAt.desc).map (fun d => d.parameters.length) = some 2 := by decide +kernel
theorem hyX10_valueAt : yX10_valueAt.cls ≠ "java/lang/invoke/MethodHandle" ∧ yX10_valueAt.cls ≠ "java/lang/invoke/VarHandle" := by decide +kernel
theorem npX10_lays : (parseMethodDescriptor yX10_lays.desc).map (fun d => d.parameters.length) = some 3 := by decide +kernel
theorem hyX10_lays : yX10_lays.cls ≠ "java/lang/invoke/MethodHandle" ∧ yX10_lays.cls ≠ "java/lang/invoke/VarHandle" := by decide +kernel
theorem npX10_changes : (parseMethodDescriptor yX10_changes.desc).map (fun d => d.parameters.length) = some 3 := by decide +kernel
theorem hyX10_changes : yX10_changes.cls ≠ "java/lang/invoke/MethodHandle" ∧ yX10_changes.cls ≠ "java/lang/invoke/VarHandle" := by decide +kernel
theorem npX10_undo : (parseMethodDescriptor yX10_undo.desc).map (fun d => d.parameters.length) = some 0 := by decide +kernel
theorem hyX10_undo : yX10_undo.cls ≠ "java/lang/invoke/MethodHandle" ∧ yX10_undo.cls ≠ "java/lang/invoke/VarHandle" := by decide +kernel
theorem npX10_redo : (parseMethodDescriptor yX10_redo.desc).map (fun d => d.parameters.length) = some 0 := by decide +kernel
theorem hyX10_redo : yX10_redo.cls ≠ "java/lang/invoke/MethodHandle" ∧ yX10_redo.cls ≠ "java/lang/invoke/VarHandle" := by decide +kernel
theorem npX10_isOne : (parseMethodDescriptor yX10_isOne.desc).map (fun d => d.parameters.length) = some 2 := by decide +kernel
theorem hyX10_isOne : yX10_isOne.cls ≠ "java/lang/invoke/MethodHandle" ∧ yX10_isOne.cls ≠ "java/lang/invoke/VarHandle" := by decide +kernel
theorem npX10_mayHave : (parseMethodDescriptor yX10_mayHave.desc).map (fun d => d.parameters.length) = some 2 := by decide +kernel
theorem hyX10_mayHave : yX10_mayHave.cls ≠ "java/lang/invoke/MethodHandle" ∧ yX10_mayHave.cls ≠ "java/lang/invoke/VarHandle" := by decide +kernel
theorem npX10_mend : (parseMethodDescriptor yX10_mend.desc).map (fun d => d.parameters.length) = some 3 := by decide +kernel
theorem hyX10_mend : yX10_mend.cls ≠ "java/lang/invoke/MethodHandle" ∧ yX10_mend.cls ≠ "java/lang/invoke/VarHandle" := by decide +kernel
theorem npX10_of : (parseMethodDescriptor yX10_of.desc).map (fun d => d.parameters.length) = some 2 := by decide +kernel
theorem hyX10_of : yX10_of.cls ≠ "java/lang/invoke/MethodHandle" ∧ yX10_of.cls ≠ "java/lang/invoke/VarHandle" := by decide +kernel
theorem npX10_feed : (parseMethodDescriptor yX10_feed.desc).map (fun d => d.parameters.length) = some 1 := by decide +kernel
theorem hyX10_feed : yX10_feed.cls ≠ "java/lang/invoke/MethodHandle" ∧ yX10_feed.cls ≠ "java/lang/invoke/VarHandle" := by decide +kernel
theorem npX10_look : (parseMethodDescriptor yX10_look.desc).map (fun d => d.parameters.length) = some 0 := by decide +kernel
theorem hyX10_look : yX10_look.cls ≠ "java/lang/invoke/MethodHandle" ∧ yX10_look.cls ≠ "java/lang/invoke/VarHandle" := by decide +kernel
theorem npX10_wrong : (parseMethodDescriptor yX10_wrong.desc).map (fun d => d.parameters.length) = some 0 := by decide +kernel
theorem hyX10_wrong : yX10_wrong.cls ≠ "java/lang/invoke/MethodHandle" ∧ yX10_wrong.cls ≠ "java/lang/invoke/VarHandle" := by decide +kernel
theorem npX10_addStep : (parseMethodDescriptor yX10_addStep.desc).map (fun d => d.parameters.length) = some 2 := by decide +kernel
theorem hyX10_addStep : yX10_addStep.cls ≠ "java/lang/invoke/MethodHandle" ∧ yX10_addStep.cls ≠ "java/lang/invoke/VarHandle" := by decide +kernel
theorem npX10_nameOf : (parseMethodDescriptor yX10_nameOf.desc).map (fun d => d.parameters.length) = some 1 := by decide +kernel
theorem hyX10_nameOf : yX10_nameOf.cls ≠ "java/lang/invoke/MethodHandle" ∧ yX10_nameOf.cls ≠ "java/lang/invoke/VarHandle" := by decide +kernel
theorem npX10_opens : (parseMethodDescriptor yX10_opens.desc).map (fun d => d.parameters.length) = some 0 := by decide +kernel
theorem hyX10_opens : yX10_opens.cls ≠ "java/lang/invoke/MethodHandle" ∧ yX10_opens.cls ≠ "java/lang/invoke/VarHandle" := by decide +kernel
theorem npX10_figure : (parseMethodDescriptor yX10_figure.desc).map (fun d => d.parameters.length) = some 0 := by decide +kernel
theorem hyX10_figure : yX10_figure.cls ≠ "java/lang/invoke/MethodHandle" ∧ yX10_figure.cls ≠ "java/lang/invoke/VarHandle" := by decide +kernel
theorem npX10_operand : (parseMethodDescriptor yX10_operand.desc).map (fun d => d.parameters.length) = some 0 := by decide +kernel
theorem hyX10_operand : yX10_operand.cls ≠ "java/lang/invoke/MethodHandle" ∧ yX10_operand.cls ≠ "java/lang/invoke/VarHandle" := by decide +kernel
theorem npX10_product : (parseMethodDescriptor yX10_product.desc).map (fun d => d.parameters.length) = some 0 := by decide +kernel
theorem hyX10_product : yX10_product.cls ≠ "java/lang/invoke/MethodHandle" ∧ yX10_product.cls ≠ "java/lang/invoke/VarHandle" := by decide +kernel
theorem npX10_sum : (parseMethodDescriptor yX10_sum.desc).map (fun d => d.parameters.length) = some 0 := by decide +kernel
theorem hyX10_sum : yX10_sum.cls ≠ "java/lang/invoke/MethodHandle" ∧ yX10_sum.cls ≠ "java/lang/invoke/VarHandle" := by decide +kernel
theorem npX10_compared : (parseMethodDescriptor yX10_compared.desc).map (fun d => d.parameters.length) = some 0 := by decide +kernel
theorem hyX10_compared : yX10_compared.cls ≠ "java/lang/invoke/MethodHandle" ∧ yX10_compared.cls ≠ "java/lang/invoke/VarHandle" := by decide +kernel
theorem npX10_both : (parseMethodDescriptor yX10_both.desc).map (fun d => d.parameters.length) = some 0 := by decide +kernel
theorem hyX10_both : yX10_both.cls ≠ "java/lang/invoke/MethodHandle" ∧ yX10_both.cls ≠ "java/lang/invoke/VarHandle" := by decide +kernel
theorem npX10_either : (parseMethodDescriptor yX10_either.desc).map (fun d => d.parameters.length) = some 0 := by decide +kernel
theorem hyX10_either : yX10_either.cls ≠ "java/lang/invoke/MethodHandle" ∧ yX10_either.cls ≠ "java/lang/invoke/VarHandle" := by decide +kernel
theorem npX10_line : (parseMethodDescriptor yX10_line.desc).map (fun d => d.parameters.length) = some 0 := by decide +kernel
theorem hyX10_line : yX10_line.cls ≠ "java/lang/invoke/MethodHandle" ∧ yX10_line.cls ≠ "java/lang/invoke/VarHandle" := by decide +kernel
theorem npX10_readText : (parseMethodDescriptor yX10_readText.desc).map (fun d => d.parameters.length) = some 1 := by decide +kernel
theorem hyX10_readText : yX10_readText.cls ≠ "java/lang/invoke/MethodHandle" ∧ yX10_readText.cls ≠ "java/lang/invoke/VarHandle" := by decide +kernel
theorem npX10_twoOf : (parseMethodDescriptor yX10_twoOf.desc).map (fun d => d.parameters.length) = some 3 := by decide +kernel
theorem hyX10_twoOf : yX10_twoOf.cls ≠ "java/lang/invoke/MethodHandle" ∧ yX10_twoOf.cls ≠ "java/lang/invoke/VarHandle" := by decide +kernel
theorem npX10_worked : (parseMethodDescriptor yX10_worked.desc).map (fun d => d.parameters.length) = some 3 := by decide +kernel
theorem hyX10_worked : yX10_worked.cls ≠ "java/lang/invoke/MethodHandle" ∧ yX10_worked.cls ≠ "java/lang/invoke/VarHandle" := by decide +kernel
theorem npX10_gives : (parseMethodDescriptor yX10_gives.desc).map (fun d => d.parameters.length) = some 1 := by decide +kernel
theorem hyX10_gives : yX10_gives.cls ≠ "java/lang/invoke/MethodHandle" ∧ yX10_gives.cls ≠ "java/lang/invoke/VarHandle" := by decide +kernel
theorem npX10_law : (parseMethodDescriptor yX10_law.desc).map (fun d => d.parameters.length) = some 0 := by decide +kernel
theorem hyX10_law : yX10_law.cls ≠ "java/lang/invoke/MethodHandle" ∧ yX10_law.cls ≠ "java/lang/invoke/VarHandle" := by decide +kernel
theorem npX10_priceIn : (parseMethodDescriptor yX10_priceIn.desc).map (fun d => d.parameters.length) = some 3 := by decide +kernel
theorem hyX10_priceIn : yX10_priceIn.cls ≠ "java/lang/invoke/MethodHandle" ∧ yX10_priceIn.cls ≠ "java/lang/invoke/VarHandle" := by decide +kernel
theorem npX10_price : (parseMethodDescriptor yX10_price.desc).map (fun d => d.parameters.length) = some 2 := by decide +kernel
theorem hyX10_price : yX10_price.cls ≠ "java/lang/invoke/MethodHandle" ∧ yX10_price.cls ≠ "java/lang/invoke/VarHandle" := by decide +kernel
theorem npX10_rowFault : (parseMethodDescriptor yX10_rowFault.desc).map (fun d => d.parameters.length) = some 2 := by decide +kernel
theorem hyX10_rowFault : yX10_rowFault.cls ≠ "java/lang/invoke/MethodHandle" ∧ yX10_rowFault.cls ≠ "java/lang/invoke/VarHandle" := by decide +kernel
theorem npX10_at : (parseMethodDescriptor yX10_at.desc).map (fun d => d.parameters.length) = some 2 := by decide +kernel
theorem hyX10_at : yX10_at.cls ≠ "java/lang/invoke/MethodHandle" ∧ yX10_at.cls ≠ "java/lang/invoke/VarHandle" := by decide +kernel
theorem npX10_layWired : (parseMethodDescriptor yX10_layWired.desc).map (fun d => d.parameters.length) = some 1 := by decide +kernel
theorem hyX10_layWired : yX10_layWired.cls ≠ "java/lang/invoke/MethodHandle" ∧ yX10_layWired.cls ≠ "java/lang/invoke/VarHandle" := by decide +kernel
theorem npX10_aheadOf : (parseMethodDescriptor yX10_aheadOf.desc).map (fun d => d.parameters.length) = some 1 := by decide +kernel
theorem hyX10_aheadOf : yX10_aheadOf.cls ≠ "java/lang/invoke/MethodHandle" ∧ yX10_aheadOf.cls ≠ "java/lang/invoke/VarHandle" := by decide +kernel
theorem npX10_priceAt : (parseMethodDescriptor yX10_priceAt.desc).map (fun d => d.parameters.length) = some 1 := by decide +kernel
theorem hyX10_priceAt : yX10_priceAt.cls ≠ "java/lang/invoke/MethodHandle" ∧ yX10_priceAt.cls ≠ "java/lang/invoke/VarHandle" := by decide +kernel
theorem npX10_priceAll : (parseMethodDescriptor yX10_priceAll.desc).map (fun d => d.parameters.length) = some 0 := by decide +kernel
theorem hyX10_priceAll : yX10_priceAll.cls ≠ "java/lang/invoke/MethodHandle" ∧ yX10_priceAll.cls ≠ "java/lang/invoke/VarHandle" := by decide +kernel
theorem npX10_senseAll : (parseMethodDescriptor yX10_senseAll.desc).map (fun d => d.parameters.length) = some 0 := by decide +kernel
theorem hyX10_senseAll : yX10_senseAll.cls ≠ "java/lang/invoke/MethodHandle" ∧ yX10_senseAll.cls ≠ "java/lang/invoke/VarHandle" := by decide +kernel
theorem npX10_mayStand : (parseMethodDescriptor yX10_mayStand.desc).map (fun d => d.parameters.length) = some 2 := by decide +kernel
theorem hyX10_mayStand : yX10_mayStand.cls ≠ "java/lang/invoke/MethodHandle" ∧ yX10_mayStand.cls ≠ "java/lang/invoke/VarHandle" := by decide +kernel
theorem npX10_isRight : (parseMethodDescriptor yX10_isRight.desc).map (fun d => d.parameters.length) = some 0 := by decide +kernel
theorem hyX10_isRight : yX10_isRight.cls ≠ "java/lang/invoke/MethodHandle" ∧ yX10_isRight.cls ≠ "java/lang/invoke/VarHandle" := by decide +kernel
theorem npX10_findJoined : (parseMethodDescriptor yX10_findJoined.desc).map (fun d => d.parameters.length) = some 0 := by decide +kernel
theorem hyX10_findJoined : yX10_findJoined.cls ≠ "java/lang/invoke/MethodHandle" ∧ yX10_findJoined.cls ≠ "java/lang/invoke/VarHandle" := by decide +kernel
theorem npX10_wire : (parseMethodDescriptor yX10_wire.desc).map (fun d => d.parameters.length) = some 2 := by decide +kernel
theorem hyX10_wire : yX10_wire.cls ≠ "java/lang/invoke/MethodHandle" ∧ yX10_wire.cls ≠ "java/lang/invoke/VarHandle" := by decide +kernel
theorem npX10_sayAt : (parseMethodDescriptor yX10_sayAt.desc).map (fun d => d.parameters.length) = some 4 := by decide +kernel
theorem hyX10_sayAt : yX10_sayAt.cls ≠ "java/lang/invoke/MethodHandle" ∧ yX10_sayAt.cls ≠ "java/lang/invoke/VarHandle" := by decide +kernel
theorem npX10_sayBy : (parseMethodDescriptor yX10_sayBy.desc).map (fun d => d.parameters.length) = some 5 := by decide +kernel
theorem hyX10_sayBy : yX10_sayBy.cls ≠ "java/lang/invoke/MethodHandle" ∧ yX10_sayBy.cls ≠ "java/lang/invoke/VarHandle" := by decide +kernel
theorem npX10_findSay : (parseMethodDescriptor yX10_findSay.desc).map (fun d => d.parameters.length) = some 2 := by decide +kernel
theorem hyX10_findSay : yX10_findSay.cls ≠ "java/lang/invoke/MethodHandle" ∧ yX10_findSay.cls ≠ "java/lang/invoke/VarHandle" := by decide +kernel
theorem npX10_leastSay : (parseMethodDescriptor yX10_leastSay.desc).map (fun d => d.parameters.length) = some 4 := by decide +kernel
theorem hyX10_leastSay : yX10_leastSay.cls ≠ "java/lang/invoke/MethodHandle" ∧ yX10_leastSay.cls ≠ "java/lang/invoke/VarHandle" := by decide +kernel
theorem npX10_say : (parseMethodDescriptor yX10_say.desc).map (fun d => d.parameters.length) = some 2 := by decide +kernel
theorem hyX10_say : yX10_say.cls ≠ "java/lang/invoke/MethodHandle" ∧ yX10_say.cls ≠ "java/lang/invoke/VarHandle" := by decide +kernel
theorem npX10_nowAt : (parseMethodDescriptor yX10_nowAt.desc).map (fun d => d.parameters.length) = some 3 := by decide +kernel
theorem hyX10_nowAt : yX10_nowAt.cls ≠ "java/lang/invoke/MethodHandle" ∧ yX10_nowAt.cls ≠ "java/lang/invoke/VarHandle" := by decide +kernel
theorem npX10_goPlace : (parseMethodDescriptor yX10_goPlace.desc).map (fun d => d.parameters.length) = some 1 := by decide +kernel
theorem hyX10_goPlace : yX10_goPlace.cls ≠ "java/lang/invoke/MethodHandle" ∧ yX10_goPlace.cls ≠ "java/lang/invoke/VarHandle" := by decide +kernel
theorem npX10_goFrom : (parseMethodDescriptor yX10_goFrom.desc).map (fun d => d.parameters.length) = some 4 := by decide +kernel
theorem hyX10_goFrom : yX10_goFrom.cls ≠ "java/lang/invoke/MethodHandle" ∧ yX10_goFrom.cls ≠ "java/lang/invoke/VarHandle" := by decide +kernel
theorem npX10_findLeast : (parseMethodDescriptor yX10_findLeast.desc).map (fun d => d.parameters.length) = some 0 := by decide +kernel
theorem hyX10_findLeast : yX10_findLeast.cls ≠ "java/lang/invoke/MethodHandle" ∧ yX10_findLeast.cls ≠ "java/lang/invoke/VarHandle" := by decide +kernel
theorem npX10_allFor : (parseMethodDescriptor yX10_allFor.desc).map (fun d => d.parameters.length) = some 2 := by decide +kernel
theorem hyX10_allFor : yX10_allFor.cls ≠ "java/lang/invoke/MethodHandle" ∧ yX10_allFor.cls ≠ "java/lang/invoke/VarHandle" := by decide +kernel
theorem npX10_tooDear : (parseMethodDescriptor yX10_tooDear.desc).map (fun d => d.parameters.length) = some 1 := by decide +kernel
theorem hyX10_tooDear : yX10_tooDear.cls ≠ "java/lang/invoke/MethodHandle" ∧ yX10_tooDear.cls ≠ "java/lang/invoke/VarHandle" := by decide +kernel
theorem npX10_year : (parseMethodDescriptor yX10_year.desc).map (fun d => d.parameters.length) = some 3 := by decide +kernel
theorem hyX10_year : yX10_year.cls ≠ "java/lang/invoke/MethodHandle" ∧ yX10_year.cls ≠ "java/lang/invoke/VarHandle" := by decide +kernel
theorem npX10_errAt : (parseMethodDescriptor yX10_errAt.desc).map (fun d => d.parameters.length) = some 4 := by decide +kernel
theorem hyX10_errAt : yX10_errAt.cls ≠ "java/lang/invoke/MethodHandle" ∧ yX10_errAt.cls ≠ "java/lang/invoke/VarHandle" := by decide +kernel
theorem npX10_weightOf : (parseMethodDescriptor yX10_weightOf.desc).map (fun d => d.parameters.length) = some 2 := by decide +kernel
theorem hyX10_weightOf : yX10_weightOf.cls ≠ "java/lang/invoke/MethodHandle" ∧ yX10_weightOf.cls ≠ "java/lang/invoke/VarHandle" := by decide +kernel
theorem npX10_seenBy : (parseMethodDescriptor yX10_seenBy.desc).map (fun d => d.parameters.length) = some 2 := by decide +kernel
theorem hyX10_seenBy : yX10_seenBy.cls ≠ "java/lang/invoke/MethodHandle" ∧ yX10_seenBy.cls ≠ "java/lang/invoke/VarHandle" := by decide +kernel
theorem npX10_nextAt : (parseMethodDescriptor yX10_nextAt.desc).map (fun d => d.parameters.length) = some 4 := by decide +kernel
theorem hyX10_nextAt : yX10_nextAt.cls ≠ "java/lang/invoke/MethodHandle" ∧ yX10_nextAt.cls ≠ "java/lang/invoke/VarHandle" := by decide +kernel
theorem npX10_findErrors : (parseMethodDescriptor yX10_findErrors.desc).map (fun d => d.parameters.length) = some 1 := by decide +kernel
theorem hyX10_findErrors : yX10_findErrors.cls ≠ "java/lang/invoke/MethodHandle" ∧ yX10_findErrors.cls ≠ "java/lang/invoke/VarHandle" := by decide +kernel
theorem npX10_findPlace : (parseMethodDescriptor yX10_findPlace.desc).map (fun d => d.parameters.length) = some 4 := by decide +kernel
theorem hyX10_findPlace : yX10_findPlace.cls ≠ "java/lang/invoke/MethodHandle" ∧ yX10_findPlace.cls ≠ "java/lang/invoke/VarHandle" := by decide +kernel
theorem npX10_layFirst : (parseMethodDescriptor yX10_layFirst.desc).map (fun d => d.parameters.length) = some 1 := by decide +kernel
theorem hyX10_layFirst : yX10_layFirst.cls ≠ "java/lang/invoke/MethodHandle" ∧ yX10_layFirst.cls ≠ "java/lang/invoke/VarHandle" := by decide +kernel
theorem npX10_came : (parseMethodDescriptor yX10_came.desc).map (fun d => d.parameters.length) = some 1 := by decide +kernel
theorem hyX10_came : yX10_came.cls ≠ "java/lang/invoke/MethodHandle" ∧ yX10_came.cls ≠ "java/lang/invoke/VarHandle" := by decide +kernel
theorem npX10_cameAs : (parseMethodDescriptor yX10_cameAs.desc).map (fun d => d.parameters.length) = some 2 := by decide +kernel
theorem hyX10_cameAs : yX10_cameAs.cls ≠ "java/lang/invoke/MethodHandle" ∧ yX10_cameAs.cls ≠ "java/lang/invoke/VarHandle" := by decide +kernel
theorem npX10_lowest : (parseMethodDescriptor yX10_lowest.desc).map (fun d => d.parameters.length) = some 3 := by decide +kernel
theorem hyX10_lowest : yX10_lowest.cls ≠ "java/lang/invoke/MethodHandle" ∧ yX10_lowest.cls ≠ "java/lang/invoke/VarHandle" := by decide +kernel
theorem npX10_oddsWith : (parseMethodDescriptor yX10_oddsWith.desc).map (fun d => d.parameters.length) = some 1 := by decide +kernel
theorem hyX10_oddsWith : yX10_oddsWith.cls ≠ "java/lang/invoke/MethodHandle" ∧ yX10_oddsWith.cls ≠ "java/lang/invoke/VarHandle" := by decide +kernel
theorem npX10_meant : (parseMethodDescriptor yX10_meant.desc).map (fun d => d.parameters.length) = some 3 := by decide +kernel
theorem hyX10_meant : yX10_meant.cls ≠ "java/lang/invoke/MethodHandle" ∧ yX10_meant.cls ≠ "java/lang/invoke/VarHandle" := by decide +kernel
theorem npX10_certain : (parseMethodDescriptor yX10_certain.desc).map (fun d => d.parameters.length) = some 1 := by decide +kernel
theorem hyX10_certain : yX10_certain.cls ≠ "java/lang/invoke/MethodHandle" ∧ yX10_certain.cls ≠ "java/lang/invoke/VarHandle" := by decide +kernel
theorem npX10_safe : (parseMethodDescriptor yX10_safe.desc).map (fun d => d.parameters.length) = some 2 := by decide +kernel
theorem hyX10_safe : yX10_safe.cls ≠ "java/lang/invoke/MethodHandle" ∧ yX10_safe.cls ≠ "java/lang/invoke/VarHandle" := by decide +kernel
theorem npX10_unsigned : (parseMethodDescriptor yX10_unsigned.desc).map (fun d => d.parameters.length) = some 2 := by decide +kernel
theorem hyX10_unsigned : yX10_unsigned.cls ≠ "java/lang/invoke/MethodHandle" ∧ yX10_unsigned.cls ≠ "java/lang/invoke/VarHandle" := by decide +kernel
theorem npX10_club : (parseMethodDescriptor yX10_club.desc).map (fun d => d.parameters.length) = some 3 := by decide +kernel
theorem hyX10_club : yX10_club.cls ≠ "java/lang/invoke/MethodHandle" ∧ yX10_club.cls ≠ "java/lang/invoke/VarHandle" := by decide +kernel
theorem npX10_lacks : (parseMethodDescriptor yX10_lacks.desc).map (fun d => d.parameters.length) = some 1 := by decide +kernel
theorem hyX10_lacks : yX10_lacks.cls ≠ "java/lang/invoke/MethodHandle" ∧ yX10_lacks.cls ≠ "java/lang/invoke/VarHandle" := by decide +kernel
theorem npX10_drawn : (parseMethodDescriptor yX10_drawn.desc).map (fun d => d.parameters.length) = some 3 := by decide +kernel
theorem hyX10_drawn : yX10_drawn.cls ≠ "java/lang/invoke/MethodHandle" ∧ yX10_drawn.cls ≠ "java/lang/invoke/VarHandle" := by decide +kernel
theorem npX10_send : (parseMethodDescriptor yX10_send.desc).map (fun d => d.parameters.length) = some 2 := by decide +kernel
theorem hyX10_send : yX10_send.cls ≠ "java/lang/invoke/MethodHandle" ∧ yX10_send.cls ≠ "java/lang/invoke/VarHandle" := by decide +kernel
theorem npX10_night : (parseMethodDescriptor yX10_night.desc).map (fun d => d.parameters.length) = some 0 := by decide +kernel
theorem hyX10_night : yX10_night.cls ≠ "java/lang/invoke/MethodHandle" ∧ yX10_night.cls ≠ "java/lang/invoke/VarHandle" := by decide +kernel
theorem npX10_led : (parseMethodDescriptor yX10_led.desc).map (fun d => d.parameters.length) = some 1 := by decide +kernel
theorem hyX10_led : yX10_led.cls ≠ "java/lang/invoke/MethodHandle" ∧ yX10_led.cls ≠ "java/lang/invoke/VarHandle" := by decide +kernel
theorem npX10_image : (parseMethodDescriptor yX10_image.desc).map (fun d => d.parameters.length) = some 0 := by decide +kernel
theorem hyX10_image : yX10_image.cls ≠ "java/lang/invoke/MethodHandle" ∧ yX10_image.cls ≠ "java/lang/invoke/VarHandle" := by decide +kernel
theorem npX10_back : (parseMethodDescriptor yX10_back.desc).map (fun d => d.parameters.length) = some 0 := by decide +kernel
theorem hyX10_back : yX10_back.cls ≠ "java/lang/invoke/MethodHandle" ∧ yX10_back.cls ≠ "java/lang/invoke/VarHandle" := by decide +kernel
theorem npX10_isBody : (parseMethodDescriptor yX10_isBody.desc).map (fun d => d.parameters.length) = some 1 := by decide +kernel
theorem hyX10_isBody : yX10_isBody.cls ≠ "java/lang/invoke/MethodHandle" ∧ yX10_isBody.cls ≠ "java/lang/invoke/VarHandle" := by decide +kernel
theorem npX10_ran : (parseMethodDescriptor yX10_ran.desc).map (fun d => d.parameters.length) = some 1 := by decide +kernel
theorem hyX10_ran : yX10_ran.cls ≠ "java/lang/invoke/MethodHandle" ∧ yX10_ran.cls ≠ "java/lang/invoke/VarHandle" := by decide +kernel
theorem npX10_trace : (parseMethodDescriptor yX10_trace.desc).map (fun d => d.parameters.length) = some 1 := by decide +kernel
theorem hyX10_trace : yX10_trace.cls ≠ "java/lang/invoke/MethodHandle" ∧ yX10_trace.cls ≠ "java/lang/invoke/VarHandle" := by decide +kernel
theorem npX10_body : (parseMethodDescriptor yX10_body.desc).map (fun d => d.parameters.length) = some 1 := by decide +kernel
theorem hyX10_body : yX10_body.cls ≠ "java/lang/invoke/MethodHandle" ∧ yX10_body.cls ≠ "java/lang/invoke/VarHandle" := by decide +kernel
theorem npX10_isUnder : (parseMethodDescriptor yX10_isUnder.desc).map (fun d => d.parameters.length) = some 2 := by decide +kernel
theorem hyX10_isUnder : yX10_isUnder.cls ≠ "java/lang/invoke/MethodHandle" ∧ yX10_isUnder.cls ≠ "java/lang/invoke/VarHandle" := by decide +kernel
theorem npX10_plainSays : (parseMethodDescriptor yX10_plainSays.desc).map (fun d => d.parameters.length) = some 2 := by decide +kernel
theorem hyX10_plainSays : yX10_plainSays.cls ≠ "java/lang/invoke/MethodHandle" ∧ yX10_plainSays.cls ≠ "java/lang/invoke/VarHandle" := by decide +kernel
theorem npX10_cowSays : (parseMethodDescriptor yX10_cowSays.desc).map (fun d => d.parameters.length) = some 2 := by decide +kernel
theorem hyX10_cowSays : yX10_cowSays.cls ≠ "java/lang/invoke/MethodHandle" ∧ yX10_cowSays.cls ≠ "java/lang/invoke/VarHandle" := by decide +kernel
theorem npX10_saying : (parseMethodDescriptor yX10_saying.desc).map (fun d => d.parameters.length) = some 2 := by decide +kernel
theorem hyX10_saying : yX10_saying.cls ≠ "java/lang/invoke/MethodHandle" ∧ yX10_saying.cls ≠ "java/lang/invoke/VarHandle" := by decide +kernel
theorem npX10_plainCosts : (parseMethodDescriptor yX10_plainCosts.desc).map (fun d => d.parameters.length) = some 2 := by decide +kernel
theorem hyX10_plainCosts : yX10_plainCosts.cls ≠ "java/lang/invoke/MethodHandle" ∧ yX10_plainCosts.cls ≠ "java/lang/invoke/VarHandle" := by decide +kernel
theorem npX10_clerkCosts : (parseMethodDescriptor yX10_clerkCosts.desc).map (fun d => d.parameters.length) = some 2 := by decide +kernel
theorem hyX10_clerkCosts : yX10_clerkCosts.cls ≠ "java/lang/invoke/MethodHandle" ∧ yX10_clerkCosts.cls ≠ "java/lang/invoke/VarHandle" := by decide +kernel
theorem npX10_costing : (parseMethodDescriptor yX10_costing.desc).map (fun d => d.parameters.length) = some 2 := by decide +kernel
theorem hyX10_costing : yX10_costing.cls ≠ "java/lang/invoke/MethodHandle" ∧ yX10_costing.cls ≠ "java/lang/invoke/VarHandle" := by decide +kernel
theorem npX10_plainErrs : (parseMethodDescriptor yX10_plainErrs.desc).map (fun d => d.parameters.length) = some 2 := by decide +kernel
theorem hyX10_plainErrs : yX10_plainErrs.cls ≠ "java/lang/invoke/MethodHandle" ∧ yX10_plainErrs.cls ≠ "java/lang/invoke/VarHandle" := by decide +kernel
theorem npX10_stopErrs : (parseMethodDescriptor yX10_stopErrs.desc).map (fun d => d.parameters.length) = some 2 := by decide +kernel
theorem hyX10_stopErrs : yX10_stopErrs.cls ≠ "java/lang/invoke/MethodHandle" ∧ yX10_stopErrs.cls ≠ "java/lang/invoke/VarHandle" := by decide +kernel
theorem npX10_erring : (parseMethodDescriptor yX10_erring.desc).map (fun d => d.parameters.length) = some 2 := by decide +kernel
theorem hyX10_erring : yX10_erring.cls ≠ "java/lang/invoke/MethodHandle" ∧ yX10_erring.cls ≠ "java/lang/invoke/VarHandle" := by decide +kernel
theorem npX10_plainTells : (parseMethodDescriptor yX10_plainTells.desc).map (fun d => d.parameters.length) = some 2 := by decide +kernel
theorem hyX10_plainTells : yX10_plainTells.cls ≠ "java/lang/invoke/MethodHandle" ∧ yX10_plainTells.cls ≠ "java/lang/invoke/VarHandle" := by decide +kernel
theorem npX10_telling : (parseMethodDescriptor yX10_telling.desc).map (fun d => d.parameters.length) = some 2 := by decide +kernel
theorem hyX10_telling : yX10_telling.cls ≠ "java/lang/invoke/MethodHandle" ∧ yX10_telling.cls ≠ "java/lang/invoke/VarHandle" := by decide +kernel
theorem npX10_act : (parseMethodDescriptor yX10_act.desc).map (fun d => d.parameters.length) = some 3 := by decide +kernel
theorem hyX10_act : yX10_act.cls ≠ "java/lang/invoke/MethodHandle" ∧ yX10_act.cls ≠ "java/lang/invoke/VarHandle" := by decide +kernel
theorem npX10_count : (parseMethodDescriptor yX10_count.desc).map (fun d => d.parameters.length) = some 1 := by decide +kernel
theorem hyX10_count : yX10_count.cls ≠ "java/lang/invoke/MethodHandle" ∧ yX10_count.cls ≠ "java/lang/invoke/VarHandle" := by decide +kernel
theorem npX10_isShelf : (parseMethodDescriptor yX10_isShelf.desc).map (fun d => d.parameters.length) = some 1 := by decide +kernel
theorem hyX10_isShelf : yX10_isShelf.cls ≠ "java/lang/invoke/MethodHandle" ∧ yX10_isShelf.cls ≠ "java/lang/invoke/VarHandle" := by decide +kernel
theorem npX10_keep : (parseMethodDescriptor yX10_keep.desc).map (fun d => d.parameters.length) = some 2 := by decide +kernel
theorem hyX10_keep : yX10_keep.cls ≠ "java/lang/invoke/MethodHandle" ∧ yX10_keep.cls ≠ "java/lang/invoke/VarHandle" := by decide +kernel
theorem npX10_row : (parseMethodDescriptor yX10_row.desc).map (fun d => d.parameters.length) = some 3 := by decide +kernel
theorem hyX10_row : yX10_row.cls ≠ "java/lang/invoke/MethodHandle" ∧ yX10_row.cls ≠ "java/lang/invoke/VarHandle" := by decide +kernel
theorem npX10_whyNoPlace : (parseMethodDescriptor yX10_whyNoPlace.desc).map (fun d => d.parameters.length) = some 2 := by decide +kernel
theorem hyX10_whyNoPlace : yX10_whyNoPlace.cls ≠ "java/lang/invoke/MethodHandle" ∧ yX10_whyNoPlace.cls ≠ "java/lang/invoke/VarHandle" := by decide +kernel
theorem npX10_put : (parseMethodDescriptor yX10_put.desc).map (fun d => d.parameters.length) = some 3 := by decide +kernel
theorem hyX10_put : yX10_put.cls ≠ "java/lang/invoke/MethodHandle" ∧ yX10_put.cls ≠ "java/lang/invoke/VarHandle" := by decide +kernel
theorem npX10_element : (parseMethodDescriptor yX10_element.desc).map (fun d => d.parameters.length) = some 2 := by decide +kernel
theorem hyX10_element : yX10_element.cls ≠ "java/lang/invoke/MethodHandle" ∧ yX10_element.cls ≠ "java/lang/invoke/VarHandle" := by decide +kernel
theorem npX10_shift : (parseMethodDescriptor yX10_shift.desc).map (fun d => d.parameters.length) = some 5 := by decide +kernel
theorem hyX10_shift : yX10_shift.cls ≠ "java/lang/invoke/MethodHandle" ∧ yX10_shift.cls ≠ "java/lang/invoke/VarHandle" := by decide +kernel
theorem npX10_taken : (parseMethodDescriptor yX10_taken.desc).map (fun d => d.parameters.length) = some 2 := by decide +kernel
theorem hyX10_taken : yX10_taken.cls ≠ "java/lang/invoke/MethodHandle" ∧ yX10_taken.cls ≠ "java/lang/invoke/VarHandle" := by decide +kernel
theorem npJ9_max_7cf53 : (parseMethodDescriptor yJ9_max_7cf53.desc).map (fun d => d.parameters.length) = some 2 := by decide +kernel
theorem hyJ9_max_7cf53 : yJ9_max_7cf53.cls ≠ "java/lang/invoke/MethodHandle" ∧ yJ9_max_7cf53.cls ≠ "java/lang/invoke/VarHandle" := by decide +kernel
theorem npJ9_min_7cf53 : (parseMethodDescriptor yJ9_min_7cf53.desc).map (fun d => d.parameters.length) = some 2 := by decide +kernel
theorem hyJ9_min_7cf53 : yJ9_min_7cf53.cls ≠ "java/lang/invoke/MethodHandle" ∧ yJ9_min_7cf53.cls ≠ "java/lang/invoke/VarHandle" := by decide +kernel
theorem npJ9_min_f86c9 : (parseMethodDescriptor yJ9_min_f86c9.desc).map (fun d => d.parameters.length) = some 2 := by decide +kernel
theorem hyJ9_min_f86c9 : yJ9_min_f86c9.cls ≠ "java/lang/invoke/MethodHandle" ∧ yJ9_min_f86c9.cls ≠ "java/lang/invoke/VarHandle" := by decide +kernel
theorem npJ6_bitCount_0f7a4 : (parseMethodDescriptor yJ6_bitCount_0f7a4.desc).map (fun d => d.parameters.length) = some 1 := by decide +kernel
theorem hyJ6_bitCount_0f7a4 : yJ6_bitCount_0f7a4.cls ≠ "java/lang/invoke/MethodHandle" ∧ yJ6_bitCount_0f7a4.cls ≠ "java/lang/invoke/VarHandle" := by decide +kernel
theorem npJ7_fill_d0a16 : (parseMethodDescriptor yJ7_fill_d0a16.desc).map (fun d => d.parameters.length) = some 2 := by decide +kernel
theorem hyJ7_fill_d0a16 : yJ7_fill_d0a16.cls ≠ "java/lang/invoke/MethodHandle" ∧ yJ7_fill_d0a16.cls ≠ "java/lang/invoke/VarHandle" := by decide +kernel
theorem npJ7_fill_53178 : (parseMethodDescriptor yJ7_fill_53178.desc).map (fun d => d.parameters.length) = some 2 := by decide +kernel
theorem hyJ7_fill_53178 : yJ7_fill_53178.cls ≠ "java/lang/invoke/MethodHandle" ∧ yJ7_fill_53178.cls ≠ "java/lang/invoke/VarHandle" := by decide +kernel
