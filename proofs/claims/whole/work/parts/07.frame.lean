/-! THE FRAME: one memory (cell, place) of whole numbers and references; a walk of it (JW) over the machine's W -/
def r32 (i : Int) : Prop := -2147483648 ≤ i ∧ i ≤ 2147483647
def r64 (i : Int) : Prop := -9223372036854775808 ≤ i ∧ i ≤ 9223372036854775807
def w32 (i : Int) : Int := (i + 2147483648) % 4294967296 - 2147483648
def w64 (i : Int) : Int := (i + 9223372036854775808) % 18446744073709551616 - 9223372036854775808
def w8 (i : Int) : Int := (i + 128) % 256 - 128
def w16 (i : Int) : Int := (i + 32768) % 65536 - 32768
theorem w32_r (i : Int) : r32 (w32 i) := by unfold r32 w32; omega
theorem w64_r (i : Int) : r64 (w64 i) := by unfold r64 w64; omega
theorem w8_r (i : Int) : r32 (w8 i) := by unfold r32 w8; omega
theorem w16_r (i : Int) : r32 (w16 i) := by unfold r32 w16; omega
theorem w32_id {i : Int} (h : r32 i) : w32 i = i := by unfold r32 at h; unfold w32; omega
theorem w64_id {i : Int} (h : r64 i) : w64 i = i := by unfold r64 at h; unfold w64; omega
theorem q_bm32 (i : Int) : i.bmod (2^32) = w32 i := by
  have e : ((2^32 : Nat) : Int) = 4294967296 := rfl
  unfold w32; simp only [Int.bmod, e]; split <;> omega
theorem q_bm64 (i : Int) : i.bmod (2^64) = w64 i := by
  have e : ((2^64 : Nat) : Int) = 18446744073709551616 := rfl
  unfold w64; simp only [Int.bmod, e]; split <;> omega
theorem q_bm8 (i : Int) : i.bmod (2^8) = w8 i := by
  have e : ((2^8 : Nat) : Int) = 256 := rfl
  unfold w8; simp only [Int.bmod, e]; split <;> omega
theorem q_bm16 (i : Int) : i.bmod (2^16) = w16 i := by
  have e : ((2^16 : Nat) : Int) = 65536 := rfl
  unfold w16; simp only [Int.bmod, e]; split <;> omega
theorem q_i (n : Int) : (Int32.ofInt n).toInt = w32 n := by
  rw [show (Int32.ofInt n).toInt = n.bmod (2^32) from by first | exact Int32.toInt_ofInt | simp, q_bm32]
theorem q_l (n : Int) : (Int64.ofInt n).toInt = w64 n := by
  rw [show (Int64.ofInt n).toInt = n.bmod (2^64) from by first | exact Int64.toInt_ofInt | simp, q_bm64]
theorem q_id {n : Int} (h : r32 n) : (Int32.ofInt n).toInt = n := by rw [q_i, w32_id h]
theorem q_ld {n : Int} (h : r64 n) : (Int64.ofInt n).toInt = n := by rw [q_l, w64_id h]
theorem q_back (a : Int32) : Int32.ofInt a.toInt = a := by first | exact Int32.ofInt_toInt a | simp
theorem q_backl (a : Int64) : Int64.ofInt a.toInt = a := by first | exact Int64.ofInt_toInt a | simp
theorem q_r (a : Int32) : r32 a.toInt := by
  have h1 := Int32.toInt_lt a
  have h2 := Int32.le_toInt a
  unfold r32; constructor <;> omega
theorem q_rl (a : Int64) : r64 a.toInt := by
  have h1 := Int64.toInt_lt a
  have h2 := Int64.le_toInt a
  unfold r64; constructor <;> omega
theorem q_i8 (a : Int32) : a.toInt8.toInt32.toInt = a.toInt.bmod (2^8) := by simp
theorem q_i16 (a : Int32) : a.toInt16.toInt32.toInt = a.toInt.bmod (2^16) := by simp
theorem q_eq {a b : Int32} (h : a.toInt = b.toInt) : a = b := Int32.toInt_inj.mp h
theorem q_eql {a b : Int64} (h : a.toInt = b.toInt) : a = b := Int64.toInt_inj.mp h
theorem q_w (n : Int) : Int32.ofInt (w32 n) = Int32.ofInt n := q_eq (by rw [q_i, q_i, w32_id (w32_r n)])
theorem q_wl (n : Int) : Int64.ofInt (w64 n) = Int64.ofInt n := q_eql (by rw [q_l, q_l, w64_id (w64_r n)])
theorem q_add (a b : Int) : Int32.ofInt a + Int32.ofInt b = Int32.ofInt (w32 (a + b)) := by rw [q_w]; first | exact (Int32.ofInt_add).symm | exact (Int32.ofInt_add _ _).symm | simp
theorem q_sub (a b : Int) : Int32.ofInt a - Int32.ofInt b = Int32.ofInt (w32 (a - b)) := by rw [q_w]; first | exact (Int32.ofInt_sub).symm | exact (Int32.ofInt_sub _ _).symm | simp
theorem q_mul (a b : Int) : Int32.ofInt a * Int32.ofInt b = Int32.ofInt (w32 (a * b)) := by rw [q_w]; first | exact (Int32.ofInt_mul).symm | exact (Int32.ofInt_mul _ _).symm | simp
theorem q_neg (a : Int) : - Int32.ofInt a = Int32.ofInt (w32 (-a)) := by rw [q_w]; first | exact (Int32.ofInt_neg a).symm | exact (Int32.ofInt_neg).symm | simp
theorem q_ladd (a b : Int) : Int64.ofInt a + Int64.ofInt b = Int64.ofInt (w64 (a + b)) := by rw [q_wl]; first | exact (Int64.ofInt_add).symm | exact (Int64.ofInt_add _ _).symm | simp
theorem q_lsub (a b : Int) : Int64.ofInt a - Int64.ofInt b = Int64.ofInt (w64 (a - b)) := by rw [q_wl]; first | exact (Int64.ofInt_sub).symm | exact (Int64.ofInt_sub _ _).symm | simp
theorem q_lmul (a b : Int) : Int64.ofInt a * Int64.ofInt b = Int64.ofInt (w64 (a * b)) := by rw [q_wl]; first | exact (Int64.ofInt_mul).symm | exact (Int64.ofInt_mul _ _).symm | simp
theorem q_div {a b : Int} (ha : r32 a) (hb : r32 b) : Int32.ofInt a / Int32.ofInt b = Int32.ofInt (w32 (a.tdiv b)) := q_eq (by
  rw [show (Int32.ofInt a / Int32.ofInt b).toInt = ((Int32.ofInt a).toInt.tdiv (Int32.ofInt b).toInt).bmod (2^32) from by first | exact Int32.toInt_div _ _ | simp, q_bm32, q_id ha, q_id hb, q_i, w32_id (w32_r _)])
theorem q_ldiv {a b : Int} (ha : r64 a) (hb : r64 b) : Int64.ofInt a / Int64.ofInt b = Int64.ofInt (w64 (a.tdiv b)) := q_eql (by
  rw [show (Int64.ofInt a / Int64.ofInt b).toInt = ((Int64.ofInt a).toInt.tdiv (Int64.ofInt b).toInt).bmod (2^64) from by first | exact Int64.toInt_div _ _ | simp, q_bm64, q_ld ha, q_ld hb, q_l, w64_id (w64_r _)])
theorem tm_le (a b : Int) : (a.tmod b).natAbs ≤ a.natAbs := by
  rw [Int.natAbs_tmod]
  exact Nat.mod_le _ _
theorem tm_r32 {a : Int} (h : r32 a) (b : Int) : r32 (a.tmod b) := by
  have h1 := tm_le a b
  have h2 : 0 ≤ a → 0 ≤ a.tmod b := fun q => Int.tmod_nonneg b q
  have h3 : a ≤ 0 → a.tmod b ≤ 0 := fun q => by
    have := Int.tmod_nonneg b (show 0 ≤ -a by omega)
    rw [Int.neg_tmod] at this
    omega
  unfold r32 at h ⊢
  omega
theorem tm_r64 {a : Int} (h : r64 a) (b : Int) : r64 (a.tmod b) := by
  have h1 := tm_le a b
  have h2 : 0 ≤ a → 0 ≤ a.tmod b := fun q => Int.tmod_nonneg b q
  have h3 : a ≤ 0 → a.tmod b ≤ 0 := fun q => by
    have := Int.tmod_nonneg b (show 0 ≤ -a by omega)
    rw [Int.neg_tmod] at this
    omega
  unfold r64 at h ⊢
  omega
theorem q_rem {a b : Int} (ha : r32 a) (hb : r32 b) : Int32.ofInt a - Int32.ofInt a / Int32.ofInt b * Int32.ofInt b = Int32.ofInt (a.tmod b) := q_eq (by
  rw [rem_toInt, q_id ha, q_id hb, q_id (tm_r32 ha b)])
theorem q_lrem {a b : Int} (ha : r64 a) (hb : r64 b) : Int64.ofInt a - Int64.ofInt a / Int64.ofInt b * Int64.ofInt b = Int64.ofInt (a.tmod b) := by
  rw [q_ldiv ha hb, q_lmul, q_lsub]
  refine q_eql ?_
  rw [q_l, q_l]
  have e := Int.mul_tdiv_add_tmod a b
  have e2 : b * a.tdiv b = a.tdiv b * b := Int.mul_comm _ _
  have e1 : w64 (a.tmod b) = a.tmod b := w64_id (tm_r64 ha b)
  rw [e1]
  by_cases hs : r64 (a.tdiv b)
  · rw [w64_id hs, w64_id (w64_r _)]
    generalize a.tdiv b * b = z at *
    have hr := tm_r64 ha b
    unfold w64 r64 at *
    omega
  · have hb1 : b = -1 ∧ a = -9223372036854775808 := by
      have ha' := ha
      unfold r64 at hs ha' hb
      have h1 : (a.tdiv b).natAbs ≤ a.natAbs := by rw [Int.natAbs_tdiv]; exact Nat.div_le_self _ _
      have h2 : a.tdiv b = 9223372036854775808 := by omega
      have h3 : a.natAbs = 9223372036854775808 := by omega
      have h4 : a.natAbs / b.natAbs = 9223372036854775808 := by
        have z := Int.natAbs_tdiv a b
        rw [h2] at z
        exact z.symm
      rw [h3] at h4
      have h5 : b.natAbs = 1 := by
        rcases Nat.lt_or_ge b.natAbs 2 with q | q
        · rcases Nat.lt_or_ge b.natAbs 1 with q0 | q0
          · have : b.natAbs = 0 := by omega
            rw [this] at h4; simp at h4
          · omega
        · have : 9223372036854775808 / b.natAbs ≤ 9223372036854775808 / 2 := Nat.div_le_div_left q (by decide)
          rw [h4] at this
          exact absurd this (by decide)
      have h6 : a = -9223372036854775808 := by omega
      refine ⟨?_, h6⟩
      rcases Int.natAbs_eq b with q | q
      · rw [q, h5, h6] at h2; exact absurd h2 (by decide)
      · rw [q, h5]; rfl
    obtain ⟨rfl, rfl⟩ := hb1
    decide
theorem q_lt {a b : Int} (ha : r32 a) (hb : r32 b) : Int32.ofInt a < Int32.ofInt b ↔ a < b := by rw [show Int32.ofInt a < Int32.ofInt b ↔ (Int32.ofInt a).toInt < (Int32.ofInt b).toInt from by first | exact Int32.lt_iff_toInt_lt | simp, q_id ha, q_id hb]
theorem q_le {a b : Int} (ha : r32 a) (hb : r32 b) : Int32.ofInt a ≤ Int32.ofInt b ↔ a ≤ b := by rw [show Int32.ofInt a ≤ Int32.ofInt b ↔ (Int32.ofInt a).toInt ≤ (Int32.ofInt b).toInt from by first | exact Int32.le_iff_toInt_le | simp, q_id ha, q_id hb]
theorem q_eqi {a b : Int} (ha : r32 a) (hb : r32 b) : Int32.ofInt a = Int32.ofInt b ↔ a = b := ⟨fun h => by have := congrArg Int32.toInt h; rwa [q_id ha, q_id hb] at this, fun h => by rw [h]⟩
theorem q_z : Int32.ofInt 0 = 0 := by first | rfl | decide
theorem q_eq0 {a : Int} (ha : r32 a) : Int32.ofInt a = 0 ↔ a = 0 := by rw [← q_z]; exact q_eqi ha (by unfold r32; omega)
theorem q_lt0 {a : Int} (ha : r32 a) : Int32.ofInt a < 0 ↔ a < 0 := by rw [← q_z]; exact q_lt ha (by unfold r32; omega)
theorem q_0lt {a : Int} (ha : r32 a) : 0 < Int32.ofInt a ↔ 0 < a := by rw [← q_z]; exact q_lt (by unfold r32; omega) ha
theorem q_le0 {a : Int} (ha : r32 a) : Int32.ofInt a ≤ 0 ↔ a ≤ 0 := by rw [← q_z]; exact q_le ha (by unfold r32; omega)
theorem q_0le {a : Int} (ha : r32 a) : 0 ≤ Int32.ofInt a ↔ 0 ≤ a := by rw [← q_z]; exact q_le (by unfold r32; omega) ha
theorem q_lz : Int64.ofInt 0 = 0 := by first | rfl | decide
theorem q_leq0 {a : Int} (ha : r64 a) : Int64.ofInt a = 0 ↔ a = 0 := by
  rw [← q_lz]
  exact ⟨fun h => by have := congrArg Int64.toInt h; rwa [q_ld ha, q_ld (by unfold r64; omega)] at this, fun h => by rw [h]⟩
theorem q_nat {a : Int} (h0 : 0 ≤ a) (h : r32 a) : (Int32.ofInt a).toNatClampNeg = a.toNat := by
  show (Int32.ofInt a).toInt.toNat = a.toNat
  rw [q_id h]
theorem q_in {a : Int} {N : Nat} (h : r32 a) (h0 : 0 ≤ a) (hN : a < N) : vp_in (Int32.ofInt a) N := vp_in_iff.mpr ⟨by rw [q_id h]; exact h0, by rw [q_id h]; exact hN⟩
def lcm (a b : Int) : Int := if a > b then 1 else if a = b then 0 else -1
theorem q_cmp {a b : Int} (ha : r64 a) (hb : r64 b) : lg_cmp (Int64.ofInt a) (Int64.ofInt b) = Int32.ofInt (lcm a b) := by
  unfold lg_cmp lcm
  have e1 : (Int64.ofInt a > Int64.ofInt b) ↔ a > b := by
    show Int64.ofInt b < Int64.ofInt a ↔ b < a
    rw [show Int64.ofInt b < Int64.ofInt a ↔ (Int64.ofInt b).toInt < (Int64.ofInt a).toInt from by first | exact Int64.lt_iff_toInt_lt | simp, q_ld ha, q_ld hb]
  have e2 : (Int64.ofInt a = Int64.ofInt b) ↔ a = b := ⟨fun h => by have := congrArg Int64.toInt h; rwa [q_ld ha, q_ld hb] at this, fun h => by rw [h]⟩
  by_cases h1 : a > b
  · rw [if_pos (e1.mpr h1), if_pos h1]; first | rfl | decide
  · rw [if_neg (mt e1.mp h1), if_neg h1]
    by_cases h2 : a = b
    · rw [if_pos (e2.mpr h2), if_pos h2]; first | rfl | decide
    · rw [if_neg (mt e2.mp h2), if_neg h2]; first | rfl | decide
theorem lcm_r (a b : Int) : r32 (lcm a b) := by unfold lcm r32; split <;> (try split) <;> omega
-- bits, by the machine's own numbers
def b2 (f : Int32 → Int32 → Int32) (a b : Int) : Int := (f (Int32.ofInt a) (Int32.ofInt b)).toInt
def l2 (f : Int64 → Int64 → Int64) (a b : Int) : Int := (f (Int64.ofInt a) (Int64.ofInt b)).toInt
def ls2 (f : Int64 → Int64 → Int64) (a b : Int) : Int := (f (Int64.ofInt a) (Int32.ofInt b).toInt64).toInt
def o_and (a b : Int) : Int := b2 (fun x y => x &&& y) a b
def o_or (a b : Int) : Int := b2 (fun x y => x ||| y) a b
def o_xor (a b : Int) : Int := b2 (fun x y => x ^^^ y) a b
def o_shl (a b : Int) : Int := b2 (fun x y => x <<< (y &&& 31)) a b
def o_shr (a b : Int) : Int := b2 (fun x y => x >>> (y &&& 31)) a b
def o_ush (a b : Int) : Int := b2 (fun x y => (x.toUInt32 >>> (y.toUInt32 &&& Int32.toUInt32 31)).toInt32) a b
def o_land (a b : Int) : Int := l2 (fun x y => x &&& y) a b
def o_lor (a b : Int) : Int := l2 (fun x y => x ||| y) a b
def o_lshl (a b : Int) : Int := ls2 (fun x y => x <<< (y &&& 63)) a b
def o_lshr (a b : Int) : Int := ls2 (fun x y => x >>> (y &&& 63)) a b
def o_chr (a : Int) : Int := ((Int32.ofInt a).toUInt32 % 65536).toInt32.toInt
-- values: a number, a long, a reference to a cell by its number, anything
abbrev AV : Type := Int ⊕ Int ⊕ Nat ⊕ Value
abbrev vI (i : Int) : AV := .inl i
abbrev vL (i : Int) : AV := .inr (.inl i)
abbrev vR (r : Nat) : AV := .inr (.inr (.inl r))
abbrev vX (v : Value) : AV := .inr (.inr (.inr v))
def cv (B : Nat → Nat) : AV → Value
  | .inl i => .int (Int32.ofInt i)
  | .inr (.inl i) => .long (Int64.ofInt i)
  | .inr (.inr (.inl r)) => .ref (B r)
  | .inr (.inr (.inr v)) => v
def rg (n : Nat) : AV → Prop
  | .inl i => r32 i
  | .inr (.inl i) => r64 i
  | .inr (.inr (.inl r)) => r < n
  | .inr (.inr (.inr _)) => True
def ct : AV → Nat
  | .inr (.inl _) => 2
  | .inr (.inr (.inr v)) => v.category
  | _ => 1
theorem cv_ct (B : Nat → Nat) (v : AV) : (cv B v).category = ct v := by
  rcases v with i | i | r | v
  · rfl
  · rfl
  · rfl
  · rfl
-- locals
def lm (B : Nat → Nat) (L : List (Nat × AV)) : List (Nat × Value) := L.map fun q => (q.1, cv B q.2)
def st1 (i : Nat) (v : AV) (L : List (Nat × AV)) : List (Nat × AV) := (i, v) :: L.filter (fun q => !(q.1 == i) && !(q.1 + 1 == i && ct q.2 == 2))
def st2 (i : Nat) (v : AV) (L : List (Nat × AV)) : List (Nat × AV) := (i, v) :: L.filter (fun q => !(q.1 == i) && (!(q.1 == i + 1) && !(q.1 + 1 == i && ct q.2 == 2)))
theorem lm_get {B : Nat → Nat} {L : List (Nat × AV)} {k i : Nat} {v : AV} (h : L[k]? = some (i, v)) : (lm B L)[k]? = some (i, cv B v) := by simp [lm, h]
theorem lm_st1 (B : Nat → Nat) (i : Nat) (v : AV) (L : List (Nat × AV)) : (i, cv B v) :: (lm B L).filter (fun q => !(q.1 == i) && !(q.1 + 1 == i && q.2.category == 2)) = lm B (st1 i v L) := by
  simp only [lm, st1, List.map_cons, List.filter_map]
  congr 2
  apply List.filter_congr
  intro q _
  simp [cv_ct]
theorem lm_st2 (B : Nat → Nat) (i : Nat) (v : AV) (L : List (Nat × AV)) : (i, cv B v) :: (lm B L).filter (fun q => !(q.1 == i) && (!(q.1 == i + 1) && !(q.1 + 1 == i && q.2.category == 2))) = lm B (st2 i v L) := by
  simp only [lm, st2, List.map_cons, List.filter_map]
  congr 2
  apply List.filter_congr
  intro q _
  simp [cv_ct]
-- memory
abbrev Mem : Type := (Nat → Nat → Int) × (Nat → Nat → Option Nat)
def gI (M : Mem) (c k : Nat) : Int := M.1 c k
def gR (M : Mem) (c k : Nat) : Option Nat := M.2 c k
def sI (M : Mem) (c k : Nat) (v : Int) : Mem := (fun c' k' => if c' = c ∧ k' = k then v else M.1 c' k', M.2)
def sR (M : Mem) (c k : Nat) (v : Option Nat) : Mem := (M.1, fun c' k' => if c' = c ∧ k' = k then v else M.2 c' k')
/-- n places of a from i on come to b from j on, as they were -/
def cpI (M : Mem) (a i b j n : Nat) : Mem := (fun c k => if c = b ∧ j ≤ k ∧ k < j + n then M.1 a (i + (k - j)) else M.1 c k, M.2)
def inr_ (t : Nat) (v : Int) : Prop := if t = 2 then r64 v else if t = 3 then -128 ≤ v ∧ v ≤ 127 else if t = 4 then -32768 ≤ v ∧ v ≤ 32767 else r32 v
def MR (n : Nat) (M : Mem) : Prop := (∀ c k, c < n → inr_ (tyc c).1 (gI M c k)) ∧ ∀ c k a, c < n → gR M c k = some a → a < n
def SH (M : Mem) : Prop := ∀ q ∈ stab, gR M q.1 q.2.1 = some q.2.2
theorem MR_sI {n : Nat} {M : Mem} (h : MR n M) {c k : Nat} {v : Int} (hv : inr_ (tyc c).1 v) : MR n (sI M c k v) := by
  refine ⟨fun c' k' hc => ?_, fun c' k' a hc e => h.2 c' k' a hc e⟩
  show inr_ _ (if c' = c ∧ k' = k then v else M.1 c' k')
  by_cases q : c' = c ∧ k' = k
  · rw [if_pos q, q.1]; exact hv
  · rw [if_neg q]; exact h.1 c' k' hc
theorem MR_sR {n : Nat} {M : Mem} (h : MR n M) {c k : Nat} {v : Option Nat} (hv : ∀ a, v = some a → a < n) : MR n (sR M c k v) := by
  refine ⟨fun c' k' hc => h.1 c' k' hc, fun c' k' a hc e => ?_⟩
  have e : (if c' = c ∧ k' = k then v else M.2 c' k') = some a := e
  by_cases q : c' = c ∧ k' = k
  · rw [if_pos q] at e; exact hv a e
  · rw [if_neg q] at e; exact h.2 c' k' a hc e
theorem MR_cpI {n : Nat} {M : Mem} (h : MR n M) {a i b j k : Nat} (ha : a < n) (ht : (tyc a).1 = (tyc b).1) : MR n (cpI M a i b j k) := by
  refine ⟨fun c' k' hc => ?_, fun c' k' x hc e => h.2 c' k' x hc e⟩
  show inr_ _ (if c' = b ∧ j ≤ k' ∧ k' < j + k then M.1 a (i + (k' - j)) else M.1 c' k')
  by_cases q : c' = b ∧ j ≤ k' ∧ k' < j + k
  · rw [if_pos q, q.1, ← ht]; exact h.1 a _ ha
  · rw [if_neg q]; exact h.1 c' k' hc
theorem SH_sI {M : Mem} (h : SH M) (c k : Nat) (v : Int) : SH (sI M c k v) := h
theorem SH_cpI {M : Mem} (h : SH M) (a i b j k : Nat) : SH (cpI M a i b j k) := h
theorem SH_sR {M : Mem} (h : SH M) {c k : Nat} (v : Option Nat) (hq : stab.all (fun q => !(q.1 == c && q.2.1 == k)) = true) : SH (sR M c k v) := by
  intro q hm
  show (if q.1 = c ∧ q.2.1 = k then v else M.2 q.1 q.2.1) = _
  have h1 := List.all_eq_true.mp hq q hm
  rw [if_neg (fun z => by simp [z.1, z.2] at h1)]
  exact h q hm
/-- a part of the memory, told by the numbers of its cells -/
def Lens (E : Mem → Mem) (P : Nat → Prop) : Prop := (∀ S c k, P c → gI (E S) c k = gI S c k) ∧ (∀ S c k, P c → gR (E S) c k = gR S c k) ∧ (∀ S c k v, P c → sI (E S) c k v = E (sI S c k v)) ∧ (∀ S c k v, P c → sR (E S) c k v = E (sR S c k v)) ∧ ∀ S a i b j n, P a → P b → cpI (E S) a i b j n = E (cpI S a i b j n)
theorem Lens.id (P : Nat → Prop) : Lens (fun S => S) P := ⟨fun _ _ _ _ => rfl, fun _ _ _ _ => rfl, fun _ _ _ _ _ => rfl, fun _ _ _ _ _ => rfl, fun _ _ _ _ _ _ _ _ => rfl⟩
-- cells
def ce (cA : Nat → ClassId) (B : Nat → Nat) (M : Mem) (k : Nat) : va_E :=
  if (tyc k).1 = 0 then .inr ((tyc k).2, (fk (tyc k).2).mapIdx (fun j d => if d = 2 then va_rf ((gR M k j).map B) else .int (Int32.ofInt (gI M k j))))
  else if (tyc k).1 = 2 then .inl (cA 2, (tyc k).2, .inr (.inl fun j => Int64.ofInt (gI M k j)))
  else if 5 ≤ (tyc k).1 then .inl (cA (tyc k).1, (tyc k).2, .inr (.inr (.inr (.inr fun j => (gR M k j).map B))))
  else .inl (cA (tyc k).1, (tyc k).2, .inl fun j => Int32.ofInt (gI M k j))
def wN (n : Nat) (cA : Nat → ClassId) (B : Nat → Nat) (M : Mem) : va_W := (List.range n).map fun k => (B k, ce cA B M k)
def tysOf (cA : Nat → ClassId) : List (ClassId × FieldType) := [(cA 1, .int), (cA 2, .long), (cA 3, .byte), (cA 4, .short), (cA 5, .array .int), (cA 6, .array .long)]
theorem wN_get {n : Nat} {cA : Nat → ClassId} {B : Nat → Nat} {M : Mem} {k : Nat} (h : k < n) : (wN n cA B M)[k]? = some (B k, ce cA B M k) := by simp [wN, h]
theorem wN_set {n : Nat} {cA : Nat → ClassId} {B : Nat → Nat} {M M' : Mem} {k : Nat} {e : va_E} (he : ce cA B M' k = e) (ho : ∀ j, j ≠ k → ce cA B M' j = ce cA B M j) : (wN n cA B M).set k (B k, e) = wN n cA B M' := by
  apply List.ext_getElem?
  intro i
  by_cases hi : i < n
  · by_cases hk : k = i
    · subst hk
      rw [wN_get hi, List.getElem?_set_self (by simp [wN]; exact hi), he]
    · rw [List.getElem?_set_ne hk, wN_get hi, wN_get hi, ho i (fun q => hk q.symm)]
  · rw [List.getElem?_eq_none (by simp [wN]; omega), List.getElem?_eq_none (by simp [wN]; omega)]
theorem ce_obj {cA : Nat → ClassId} {B : Nat → Nat} {M : Mem} {k ci : Nat} (h : tyc k = (0, ci)) : ce cA B M k = .inr (ci, (fk ci).mapIdx (fun j d => if d = 2 then va_rf ((gR M k j).map B) else .int (Int32.ofInt (gI M k j)))) := by
  unfold ce; rw [h]; rfl
theorem ce_long {cA : Nat → ClassId} {B : Nat → Nat} {M : Mem} {k N : Nat} (h : tyc k = (2, N)) : ce cA B M k = .inl (cA 2, N, .inr (.inl fun j => Int64.ofInt (gI M k j))) := by
  unfold ce; rw [h]; rfl
theorem ce_int {cA : Nat → ClassId} {B : Nat → Nat} {M : Mem} {k t N : Nat} (h : tyc k = (t, N)) (h0 : t ≠ 0) (h2 : t ≠ 2) (h5 : ¬ 5 ≤ t) : ce cA B M k = .inl (cA t, N, .inl fun j => Int32.ofInt (gI M k j)) := by
  unfold ce; rw [h]; simp only [h0, h2, h5, if_false]
theorem ce_ref {cA : Nat → ClassId} {B : Nat → Nat} {M : Mem} {k t N : Nat} (h : tyc k = (t, N)) (h5 : 5 ≤ t) : ce cA B M k = .inl (cA t, N, .inr (.inr (.inr (.inr fun j => (gR M k j).map B)))) := by
  unfold ce; rw [h]; simp only [h5, if_true, show t ≠ 0 by omega, show t ≠ 2 by omega, if_false]
theorem ce_sI {cA : Nat → ClassId} {B : Nat → Nat} {M : Mem} {c k : Nat} {v : Int} {j : Nat} (h : j ≠ c) : ce cA B (sI M c k v) j = ce cA B M j := by
  have e : ∀ i, gI (sI M c k v) j i = gI M j i := fun i => if_neg (fun q => h q.1)
  have e2 : ∀ i, gR (sI M c k v) j i = gR M j i := fun i => rfl
  unfold ce; simp only [e, e2]
theorem ce_sR {cA : Nat → ClassId} {B : Nat → Nat} {M : Mem} {c k : Nat} {v : Option Nat} {j : Nat} (h : j ≠ c) : ce cA B (sR M c k v) j = ce cA B M j := by
  have e : ∀ i, gI (sR M c k v) j i = gI M j i := fun i => rfl
  have e2 : ∀ i, gR (sR M c k v) j i = gR M j i := fun i => if_neg (fun q => h q.1)
  unfold ce; simp only [e, e2]
theorem ce_cpI {cA : Nat → ClassId} {B : Nat → Nat} {M : Mem} {a i b k n : Nat} {j : Nat} (h : j ≠ b) : ce cA B (cpI M a i b k n) j = ce cA B M j := by
  have e : ∀ x, gI (cpI M a i b k n) j x = gI M j x := fun x => if_neg (fun q => h q.1)
  have e2 : ∀ x, gR (cpI M a i b k n) j x = gR M j x := fun x => rfl
  unfold ce; simp only [e, e2]
theorem gI_sI (M : Mem) (c k : Nat) (v : Int) (c' k' : Nat) : gI (sI M c k v) c' k' = if c' = c ∧ k' = k then v else gI M c' k' := rfl
theorem gR_sR (M : Mem) (c k : Nat) (v : Option Nat) (c' k' : Nat) : gR (sR M c k v) c' k' = if c' = c ∧ k' = k then v else gR M c' k' := rfl
theorem gR_sI (M : Mem) (c k : Nat) (v : Int) (c' k' : Nat) : gR (sI M c k v) c' k' = gR M c' k' := rfl
theorem gI_sR (M : Mem) (c k : Nat) (v : Option Nat) (c' k' : Nat) : gI (sR M c k v) c' k' = gI M c' k' := rfl
def WB (n : Nat) (B : Nat → Nat) (A : Nat → Prop) : Prop := (∀ i j, i < n → j < n → B i = B j → i = j) ∧ ∀ i, i < n → A (B i)
theorem wN_D {n : Nat} {cA : Nat → ClassId} {B : Nat → Nat} {M : Mem} {A : Nat → Prop} (h : WB n B A) : va_D A (wN n cA B M) := by
  have key : ∀ (i : Nat) (p : Nat × va_E), (wN n cA B M)[i]? = some p → i < n ∧ p.1 = B i := by
    intro i p hp
    have hi : i < n := by have := (List.getElem?_eq_some_iff.mp hp).1; simpa [wN] using this
    rw [wN_get hi] at hp
    cases hp
    exact ⟨hi, rfl⟩
  refine ⟨fun i j p q hi hj e => ?_, fun k q hk => ?_⟩
  · obtain ⟨h1, e1⟩ := key i p hi
    obtain ⟨h2, e2⟩ := key j q hj
    exact h.1 i j h1 h2 (by rw [← e1, ← e2, e])
  · obtain ⟨h1, e1⟩ := key k q hk
    rw [e1]; exact h.2 k h1
