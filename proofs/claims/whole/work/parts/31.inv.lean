/-! WHAT TIES BOTH SIDES -/
-- steps of a text, lines, what they give
abbrev TSt : Type := Int × Int
/-- one step on a pile: a number, a name, a refusal, a turn, or two of them -/
def two (o a b : Int) : Int := if o = 43 then w32 (a + b) else if o = 45 then w32 (a - b) else if o = 42 then w32 (a * b) else if o = 47 then (if b = 0 then 0 else w32 (a.tdiv b)) else if o = 37 then (if b = 0 then 0 else a.tmod b) else if o = 60 then (if a < b then 1 else 0) else if o = 61 then (if a = b then 1 else 0) else if o = 62 then (if b < a then 1 else 0) else if o = 38 then (if a = 0 ∨ b = 0 then 0 else 1) else (if a = 0 ∧ b = 0 then 0 else 1)
def stp (F : Nat → Int) (q : TSt) (st : List Int) : List Int := if q.1 = 1 then q.2 :: st else if q.1 = 2 then F q.2.toNat :: st else match st with
  | [] => []
  | a :: r => if q.1 = 3 then (if a = 0 then 1 else 0) :: r else if q.1 = 4 then w32 (-a) :: r else match r with
    | [] => []
    | b :: r' => two q.1 b a :: r'
def run (F : Nat → Int) : List TSt → List Int → List Int
  | [], st => st
  | q :: qs, st => run F qs (stp F q st)
/-- a step that a text can have -/
def okS (q : TSt) : Prop := (q.1 = 1 ∧ 0 ≤ q.2 ∧ q.2 ≤ 9999) ∨ (q.1 = 2 ∧ 0 ≤ q.2 ∧ q.2 < 6) ∨ q.1 = 3 ∨ q.1 = 4 ∨ q.1 ∈ ([43, 45, 42, 47, 37, 60, 61, 62, 38, 124] : List Int)
/-- the class's sign of a step -/
def enc (q : TSt) : Int := if q.1 = 1 then q.2 else if q.1 = 2 then -1 - q.2 else if q.1 = 3 then -33 else if q.1 = 4 then -126 else -q.1
/-- how high the pile is behind some steps, if none of them wants what isn't there -/
def dp : List TSt → Nat → Option Nat
  | [], d => some d
  | q :: qs, d => if q.1 = 1 ∨ q.1 = 2 then dp qs (d + 1) else if q.1 = 3 ∨ q.1 = 4 then (if 1 ≤ d then dp qs d else none) else if 2 ≤ d then dp qs (d - 1) else none
/-- steps that leave one value, from any pile -/
def WF (es : List TSt) : Prop := (∀ q ∈ es, okS q) ∧ ∀ d, dp es d = some (d + 1)
abbrev Lin : Type := Option (List TSt) × List TSt
def okL (l : Lin) : Prop := (∀ t, l.1 = some t → WF t) ∧ WF l.2
def val (F : Nat → Int) (es : List TSt) : Int := (run F es []).headD 0
def evL (F : Nat → Int) : List Lin → Int
  | [] => 0
  | (none, x) :: _ => val F x
  | (some t, x) :: r => if val F t = 0 then evL F r else val F x
def sgL : Lin → List Int
  | (none, x) => x.map enc ++ [-59]
  | (some t, x) => t.map enc ++ [-63] ++ x.map enc ++ [-59]
def sgs (ls : List Lin) : List Int := ls.flatMap sgL
def stL : Lin → List TSt
  | (none, x) => x
  | (some t, x) => t ++ x
/-- the reference's ends of tests and of lines -/
def endsT : Nat → List Lin → List Int
  | _, [] => []
  | i, l :: r => ((i + (l.1.getD []).length : Nat) : Int) :: endsT (i + (stL l).length) r
def endsL : Nat → List Lin → List Int
  | _, [] => []
  | i, l :: r => ((i + (stL l).length : Nat) : Int) :: endsL (i + (stL l).length) r
def fct (cost sort ahead place night w : Int) : Nat → Int := fun k => ([cost, sort, ahead, place, night, w] : List Int).getD k 0
def clamp (x : Int) : Int := if x < 0 then 0 else if 99 < x then 99 else x
/-- the price of a word by a law -/
def prS (law : Option (List Lin)) (cost sort night w a p : Int) : Int := match law with
  | none => if night = 1 then cost.tdiv 2 else cost
  | some ls => clamp (evL (fct cost sort a p night w) ls)
/-- a list stands at a place of a row -/
def At (f : Nat → Int) (i : Nat) (l : List Int) : Prop := ∀ k, k < l.length → f (i + k) = l.getD k 0
-- ties
def RL (law : Option (List Lin)) (Sc Sm : Mem) : Prop := ((gR Sc 13 3 = some 15 ∧ gR Sc 13 5 = some 16) ∨ (gR Sc 13 3 = some 16 ∧ gR Sc 13 5 = some 15)) ∧ match law with
  | none => gI Sc 13 4 = 0 ∧ gI Sm 56 30 = 0
  | some ls => ls ≠ [] ∧ (∀ l ∈ ls, okL l) ∧ (sgs ls).length ≤ 121 ∧ ls.length ≤ 61 ∧ gI Sc 13 4 = (sgs ls).length ∧ (∀ q, gR Sc 13 3 = some q → At (gI Sc q) 0 (sgs ls)) ∧ gI Sm 56 30 = 1 ∧ gI Sm 72 0 = ls.length ∧ At (gI Sm 70) 0 ((ls.flatMap stL).map Prod.fst) ∧ At (gI Sm 71) 0 ((ls.flatMap stL).map Prod.snd) ∧ At (gI Sm 73) 0 (endsT 0 ls) ∧ At (gI Sm 74) 0 (endsL 0 ls)
def RT (Sc Sm : Mem) : Prop := ∃ f : Nat, f ≤ 120 ∧ gI Sc 13 2 = f ∧ gI Sm 56 18 = f ∧ ∀ i, i < f → 0 ≤ gI Sc 14 i ∧ gI Sc 14 i ≤ 255 ∧ gI Sm 69 i = w8 (gI Sc 14 i)
def RC (nW nP : Nat) (Sc Sm : Mem) : Prop := ∃ d z : Nat, d ≤ z ∧ z ≤ 40 ∧ gI Sc 48 5 = d ∧ gI Sc 48 6 = z ∧ gI Sm 56 11 = d ∧ gI Sm 56 12 = (z : Int) - d ∧ ∀ i, i < z → ∃ n w : Nat, w < 10 ∧ n < lim nW nP w ∧ gI Sc 49 i = n ∧ gI Sc 50 i = w ∧ gI Sm 65 i = w ∧ gI Sm 66 i = n ∧ gI Sm 67 i = gI Sc 51 i ∧ gI Sm 68 i = gI Sc 52 i ∧ (lo w ≤ gI Sc 51 i ∧ gI Sc 51 i ≤ hi nW w) ∧ lo w ≤ gI Sc 52 i ∧ gI Sc 52 i ≤ hi nW w
def RS (nB : Nat) (Sc Sm : Mem) : Prop := ∀ q, q < 6 → (gI Sc 20 q = -1 ∧ gI Sm 93 q = -1) ∨ (∃ b : Nat, b < nB ∧ gI Sc 20 q = 5 ∧ gI Sc 22 q = b ∧ gI Sm 93 q = b) ∨ ∃ t n : Nat, t < 5 ∧ n ≤ 60 ∧ gI Sc 20 q = t ∧ gI Sm 93 q = -2 - (t : Int) ∧ gI Sc 21 q = n ∧ gI Sm 94 q = n ∧ ∀ k, k < 60 → gI Sm 95 (60 * q + k) = gI Sc (24 + q) k
def RB (nB : Nat) (Sc Sm : Mem) : Prop := (nB ≤ 50 ∧ gI Sc 53 1 = nB ∧ gI Sm 56 52 = nB) ∧ (∀ i, i < nB → gI Sm 91 i = gI Sc 54 i ∧ 0 ≤ gI Sc 54 i ∧ gI Sc 54 i ≤ 7) ∧ ∃ r : Nat, r ≤ 1000 ∧ gI Sc 53 3 = r ∧ gI Sm 56 54 = r ∧ ∀ i, i < r → i < 24 → gI Sm 92 i = gI Sc 55 i
def RD (nP : Nat) (Sc Sm : Mem) : Prop := (∀ k, k < 5 → gI Sm 87 k = gI Sc 44 k) ∧ ((gI Sc 43 2 = 0 ∧ gI Sm 56 46 = 0) ∨ (gI Sc 43 2 = 1 ∧ gI Sm 56 46 = 1 ∧ ∃ p : Nat, p ≤ nP ∧ gI Sc 43 3 = p ∧ gI Sm 56 47 = p ∧ gI Sm 56 48 = gI Sc 43 4 ∧ (0 ≤ gI Sc 43 4 ∧ gI Sc 43 4 ≤ 1) ∧ (∀ i, i < p → gI Sm 88 i = gI Sc 45 i ∧ gI Sm 89 i = gI Sc 46 i ∧ (0 ≤ gI Sc 45 i ∧ gI Sc 45 i ≤ 999) ∧ 0 ≤ gI Sc 46 i ∧ gI Sc 46 i ≤ 63) ∧ ∀ k, k < 5 → gI Sm 90 k = gI Sc 47 k))
-- what can be said
/-- a word of a sort may stand behind one of another (3: first) -/
def fol (a s : Nat) : Bool := if a = 3 then s == 0 else s == 1 || (s == 2 && a != 0)
/-- words behind one of a sort, that end rightly -/
def Vp (nW : Nat) (so : Nat → Nat) : Nat → List Nat → Prop
  | a, [] => a = 1 ∨ a = 2
  | a, w :: t => w < nW ∧ fol a (so w) = true ∧ Vp nW so (so w) t
def pco (so : Nat → Nat) (pr : Nat → Nat → Nat → Nat) : Nat → Nat → List Nat → Nat
  | _, _, [] => 0
  | a, p, w :: t => pr w a p + pco so pr (so w) (p + 1) t
def sen (se : Nat → Nat) : List Nat → Nat
  | [] => 0
  | w :: t => se w ||| sen se t
def wds : Nat → List Nat → Nat
  | x, [] => x
  | x, w :: t => wds (16 * x + w) t
/-- price, how many, the words, as one number -/
def encT (so : Nat → Nat) (pr : Nat → Nat → Nat → Nat) (t : List Nat) : Nat := pco so pr 3 0 t * 2 ^ 28 + t.length * 2 ^ 24 + wds 0 t
def BO (best : Nat → Int) (nW : Nat) (so se : Nat → Nat) (pr : Nat → Nat → Nat → Nat) : Prop := ∀ s, s < 64 → (∀ t, t.length ≤ 6 → Vp nW so 3 t → sen se t = s → 0 ≤ best s ∧ best s ≤ encT so pr t) ∧ (best s = -1 ∨ ∃ t, t.length ≤ 6 ∧ Vp nW so 3 t ∧ sen se t = s ∧ best s = encT so pr t)
def soV (S : Mem) (w : Nat) : Nat := (nu S 2 w).toNat
def seV (S : Mem) (w : Nat) : Nat := (nu S 1 w).toNat
def prV (law : Option (List Lin)) (S : Mem) (w a p : Nat) : Nat := (prS law (nu S 0 w) (nu S 2 w) (nu S 7 0) w a p).toNat
def RY (t : Nat) (nW : Nat) (law : Option (List Lin)) (Sc : Mem) : Prop := ((gR Sc 34 3 = some 36 ∧ gR Sc 34 4 = some 37) ∨ (gR Sc 34 3 = some 37 ∧ gR Sc 34 4 = some 36)) ∧ (-1 ≤ gI Sc 34 5 ∧ gI Sc 34 5 ≤ gI Sc 1 3 ∧ gI Sc 1 3 ≤ (t : Int)) ∧ (gI Sc 34 5 = gI Sc 1 3 → BO (gI Sc 35) nW (soV Sc) (seV Sc) (prV law Sc))
def RH (Sc : Mem) : Prop := ((gR Sc 38 2 = some 39 ∧ gR Sc 38 3 = some 40) ∨ (gR Sc 38 2 = some 40 ∧ gR Sc 38 3 = some 39)) ∧ ((gR Sc 38 4 = some 41 ∧ gR Sc 38 5 = some 42) ∨ (gR Sc 38 4 = some 42 ∧ gR Sc 38 5 = some 41)) ∧ gI Sc 33 0 = 0
def Inv (t : Nat) (nW nP nB : Nat) (law : Option (List Lin)) (Sc Sm : Mem) : Prop := Shp Sc ∧ RO nW nP Sc Sm ∧ RC nW nP Sc Sm ∧ RT Sc Sm ∧ RL law Sc Sm ∧ RS nB Sc Sm ∧ RB nB Sc Sm ∧ RD nP Sc Sm ∧ RY t nW law Sc ∧ RH Sc
-- what a call that only asks may change
def KC (S S' : Mem) : Prop := (∀ c, c ∉ ([13, 17, 18, 30, 31, 32, 33] : List Nat) → gI S' c = gI S c) ∧ (∀ k, k ∉ ([6, 7, 10] : List Nat) → gI S' 13 k = gI S 13 k) ∧ (∀ c, gR S' c = gR S c) ∧ gI S' 33 0 = gI S 33 0
def KM (S S' : Mem) : Prop := (∀ c, c ∉ ([56, 75, 76, 77, 78, 79, 80, 81, 82, 83, 84, 85, 86, 96] : List Nat) → gI S' c = gI S c) ∧ ∀ k, k ∉ ([32, 36, 37, 44] : List Nat) → gI S' 56 k = gI S 56 k
theorem KC.rf (S : Mem) : KC S S := ⟨fun _ _ => rfl, fun _ _ => rfl, fun _ => rfl, rfl⟩
theorem KM.rf (S : Mem) : KM S S := ⟨fun _ _ => rfl, fun _ _ => rfl⟩
theorem KC.tr {S S' S'' : Mem} (h : KC S S') (g : KC S' S'') : KC S S'' := ⟨fun c hc => (g.1 c hc).trans (h.1 c hc), fun k hk => (g.2.1 k hk).trans (h.2.1 k hk), fun c => (g.2.2.1 c).trans (h.2.2.1 c), g.2.2.2.trans h.2.2.2⟩
theorem KM.tr {S S' S'' : Mem} (h : KM S S') (g : KM S' S'') : KM S S'' := ⟨fun c hc => (g.1 c hc).trans (h.1 c hc), fun k hk => (g.2 k hk).trans (h.2 k hk)⟩
theorem RO_of {nW nP : Nat} {Sc Sm Sc' Sm' : Mem} (h : RO nW nP Sc Sm) (hc : ∀ c, (c = 1 ∨ (3 ≤ c ∧ c ≤ 12)) → gI Sc' c = gI Sc c) (hm : ∀ c, (57 ≤ c ∧ c ≤ 64) → gI Sm' c = gI Sm c) (h1 : gI Sm' 56 1 = gI Sm 56 1) (h7 : gI Sm' 56 7 = gI Sm 56 7) : RO nW nP Sc' Sm' := by
  obtain ⟨hb, hw, hv, hn, hz⟩ := h
  have e1 : ∀ w i, w < 10 → nu Sc' w i = nu Sc w i := fun w i hw => by unfold nu; rw [hc (3 + w) (by omega)]
  have e2 : ∀ w i, w < 10 → mu Sm' w i = mu Sm w i := fun w i hw => by
    unfold mu
    by_cases q : w < 7
    · rw [if_pos q, if_pos q, hm (57 + w) (by omega)]
    · rw [if_neg q, if_neg q, hm 64 (by omega)]
  refine ⟨hb, by rw [hc 1 (Or.inl rfl)]; exact hw, by rw [h1, h7]; exact hv, fun w i q1 q2 => ?_, fun i hi => by rw [e1 6 i (by decide)]; exact hz i hi⟩
  rw [e1 w i q1, e2 w i q1]
  exact hn w i q1 q2
theorem RC_of {nW nP : Nat} {Sc Sm Sc' Sm' : Mem} (h : RC nW nP Sc Sm) (hc : ∀ c, (48 ≤ c ∧ c ≤ 52) → gI Sc' c = gI Sc c) (hm : ∀ c, (65 ≤ c ∧ c ≤ 68) → gI Sm' c = gI Sm c) (h1 : gI Sm' 56 11 = gI Sm 56 11) (h2 : gI Sm' 56 12 = gI Sm 56 12) : RC nW nP Sc' Sm' := by
  unfold RC
  rw [hc 48 (by omega), hc 49 (by omega), hc 50 (by omega), hc 51 (by omega), hc 52 (by omega), hm 65 (by omega), hm 66 (by omega), hm 67 (by omega), hm 68 (by omega), h1, h2]
  exact h
theorem RT_of {Sc Sm Sc' Sm' : Mem} (h : RT Sc Sm) (h1 : gI Sc' 13 2 = gI Sc 13 2) (h2 : gI Sc' 14 = gI Sc 14) (h3 : gI Sm' 56 18 = gI Sm 56 18) (h4 : gI Sm' 69 = gI Sm 69) : RT Sc' Sm' := by
  unfold RT
  rw [h1, h2, h3, h4]
  exact h
theorem RL_of {law : Option (List Lin)} {Sc Sm Sc' Sm' : Mem} (h : RL law Sc Sm) (h1 : gI Sc' 13 4 = gI Sc 13 4) (h2 : gI Sc' 15 = gI Sc 15) (h2' : gI Sc' 16 = gI Sc 16) (hr : gR Sc' 13 = gR Sc 13) (h3 : gI Sm' 56 30 = gI Sm 56 30) (h4 : gI Sm' 70 = gI Sm 70) (h5 : gI Sm' 71 = gI Sm 71) (h6 : gI Sm' 72 = gI Sm 72) (h7 : gI Sm' 73 = gI Sm 73) (h8 : gI Sm' 74 = gI Sm 74) : RL law Sc' Sm' := by
  obtain ⟨h0, h⟩ := h
  refine ⟨by rw [hr]; exact h0, ?_⟩
  cases law with
  | none =>
    obtain ⟨a, b⟩ := h
    exact ⟨by rw [h1]; exact a, by rw [h3]; exact b⟩
  | some ls =>
    obtain ⟨a1, a2, a3, a4, a5, a6, a7, a8, a9, a10, a11, a12⟩ := h
    refine ⟨a1, a2, a3, a4, by rw [h1]; exact a5, fun q hq => ?_, by rw [h3]; exact a7, by rw [h6]; exact a8, by rw [h4]; exact a9, by rw [h5]; exact a10, by rw [h7]; exact a11, by rw [h8]; exact a12⟩
    rw [hr] at hq
    have h9 := a6 q hq
    rcases h0 with z | z
    · rw [z.1] at hq; cases hq; rw [h2]; exact h9
    · rw [z.1] at hq; cases hq; rw [h2']; exact h9
theorem RS_of {nB : Nat} {Sc Sm Sc' Sm' : Mem} (h : RS nB Sc Sm) (hc : ∀ c, (20 ≤ c ∧ c ≤ 29) → gI Sc' c = gI Sc c) (hm : ∀ c, (93 ≤ c ∧ c ≤ 95) → gI Sm' c = gI Sm c) : RS nB Sc' Sm' := by
  intro q hq
  rw [hc 20 (by omega), hc 21 (by omega), hc 22 (by omega), hc (24 + q) (by omega), hm 93 (by omega), hm 94 (by omega), hm 95 (by omega)]
  exact h q hq
theorem RB_of {nB : Nat} {Sc Sm Sc' Sm' : Mem} (h : RB nB Sc Sm) (h1 : gI Sc' 53 1 = gI Sc 53 1) (h2 : gI Sc' 53 3 = gI Sc 53 3) (h3 : gI Sc' 54 = gI Sc 54) (h4 : gI Sc' 55 = gI Sc 55) (h5 : gI Sm' 56 52 = gI Sm 56 52) (h6 : gI Sm' 56 54 = gI Sm 56 54) (h7 : gI Sm' 91 = gI Sm 91) (h8 : gI Sm' 92 = gI Sm 92) : RB nB Sc' Sm' := by
  unfold RB
  rw [h1, h2, h3, h4, h5, h6, h7, h8]
  exact h
theorem RD_of {nP : Nat} {Sc Sm Sc' Sm' : Mem} (h : RD nP Sc Sm) (hc : ∀ c, (43 ≤ c ∧ c ≤ 47) → gI Sc' c = gI Sc c) (hm : ∀ c, (87 ≤ c ∧ c ≤ 90) → gI Sm' c = gI Sm c) (h1 : gI Sm' 56 46 = gI Sm 56 46) (h2 : gI Sm' 56 47 = gI Sm 56 47) (h3 : gI Sm' 56 48 = gI Sm 56 48) : RD nP Sc' Sm' := by
  unfold RD
  rw [hc 43 (by omega), hc 44 (by omega), hc 45 (by omega), hc 46 (by omega), hc 47 (by omega), hm 87 (by omega), hm 88 (by omega), hm 89 (by omega), hm 90 (by omega), h1, h2, h3]
  exact h
theorem RY_of {t t' nW : Nat} {law : Option (List Lin)} {Sc Sc' : Mem} (h : RY t nW law Sc) (ht : t ≤ t') (hc : ∀ c, (c = 1 ∨ (3 ≤ c ∧ c ≤ 5) ∨ c = 10 ∨ c = 34 ∨ c = 35) → gI Sc' c = gI Sc c) (hr : gR Sc' 34 = gR Sc 34) : RY t' nW law Sc' := by
  obtain ⟨h0, ⟨h1, h2, h3⟩, h4⟩ := h
  have e : ∀ w, w = 0 ∨ w = 1 ∨ w = 2 ∨ w = 7 → ∀ i, nu Sc' w i = nu Sc w i := fun w hw i => by unfold nu; rw [hc (3 + w) (by omega)]
  refine ⟨by rw [hr]; exact h0, by rw [hc 34 (by omega), hc 1 (by omega)]; exact ⟨h1, h2, by omega⟩, ?_⟩
  rw [hc 34 (by omega), hc 1 (by omega), hc 35 (by omega), show soV Sc' = soV Sc from funext fun w => by unfold soV; rw [e 2 (by omega)], show seV Sc' = seV Sc from funext fun w => by unfold seV; rw [e 1 (by omega)], show prV law Sc' = prV law Sc from funext fun w => funext fun a => funext fun p => by unfold prV; rw [e 0 (by omega), e 2 (by omega), e 7 (by omega)]]
  exact h4
theorem RH_of {Sc Sc' : Mem} (h : RH Sc) (hr : gR Sc' 38 = gR Sc 38) (h33 : gI Sc' 33 = gI Sc 33) : RH Sc' := by
  unfold RH
  rw [hr, h33]
  exact h
theorem Inv_keep {t nW nP nB : Nat} {law : Option (List Lin)} {Sc Sm Sc' Sm' : Mem} (h : Inv t nW nP nB law Sc Sm) (hc : KC Sc Sc') (hm : KM Sm Sm') : Inv t nW nP nB law Sc' Sm' := by
  obtain ⟨g0, g1, g2, g3, g4, g5, g6, g7, g8, g9⟩ := h
  obtain ⟨c1, c2, c3, c4⟩ := hc
  obtain ⟨m1, m2⟩ := hm
  refine ⟨Shp_of g0 (c3 2) (c3 23), RO_of g1 (fun c h => c1 c (by simp; omega)) (fun c h => m1 c (by simp; omega)) (m2 1 (by simp)) (m2 7 (by simp)), RC_of g2 (fun c h => c1 c (by simp; omega)) (fun c h => m1 c (by simp; omega)) (m2 11 (by simp)) (m2 12 (by simp)), RT_of g3 (c2 2 (by simp)) (c1 14 (by simp)) (m2 18 (by simp)) (m1 69 (by simp)), RL_of g4 (c2 4 (by simp)) (c1 15 (by simp)) (c1 16 (by simp)) (c3 13) (m2 30 (by simp)) (m1 70 (by simp)) (m1 71 (by simp)) (m1 72 (by simp)) (m1 73 (by simp)) (m1 74 (by simp)), RS_of g5 (fun c h => c1 c (by simp; omega)) (fun c h => m1 c (by simp; omega)), RB_of g6 ?_ ?_ (c1 54 (by simp)) (c1 55 (by simp)) (m2 52 (by simp)) (m2 54 (by simp)) (m1 91 (by simp)) (m1 92 (by simp)), RD_of g7 (fun c h => c1 c (by simp; omega)) (fun c h => m1 c (by simp; omega)) (m2 46 (by simp)) (m2 47 (by simp)) (m2 48 (by simp)), RY_of g8 (Nat.le_refl t) (fun c h => c1 c (by simp; omega)) (c3 34), ⟨by rw [c3 38]; exact g9.1, by rw [c3 38]; exact g9.2.1, c4.trans g9.2.2⟩⟩
  · rw [c1 53 (by simp)]
  · rw [c1 53 (by simp)]
