/-! SAY, both -/
theorem cl_p {E P l W : Nat} (e : E = P * 2 ^ 28 + l * 2 ^ 24 + W) (hP : P ≤ 594) (hl : l ≤ 6) (hW : W < 16777216) : g_X6_priceIn (E : Int) = (P : Int) := by
  rw [show (2 : Nat) ^ 28 = 268435456 from rfl, show (2 : Nat) ^ 24 = 16777216 from rfl] at e
  have e1 : E / 2 ^ 28 = P := by
    rw [show (2 : Nat) ^ 28 = 268435456 from rfl]
    omega
  unfold g_X6_priceIn
  rw [show (28 : Int) = ((28 : Nat) : Int) from rfl, olshr (by decide) (by omega), e1, w32s (by omega) (by omega)]
theorem cl_m {E P l W : Nat} (e : E = P * 2 ^ 28 + l * 2 ^ 24 + W) (hP : P ≤ 594) (hl : l ≤ 6) (hW : W < 16777216) : g_X6_manyIn (E : Int) = (l : Int) := by
  rw [show (2 : Nat) ^ 28 = 268435456 from rfl, show (2 : Nat) ^ 24 = 16777216 from rfl] at e
  have e1 : E / 2 ^ 24 % 16 = l := by
    rw [show (2 : Nat) ^ 24 = 16777216 from rfl]
    omega
  unfold g_X6_manyIn
  rw [show (24 : Int) = ((24 : Nat) : Int) from rfl, show (15 : Int) = ((15 : Nat) : Int) from rfl, olshr (by decide) (by omega), oland (Nat.lt_of_le_of_lt (Nat.div_le_self _ _) (by omega)), show (15 : Nat) = 2 ^ 4 - 1 from rfl, Nat.and_two_pow_sub_one_eq_mod, show (2 : Nat) ^ 4 = 16 from rfl, e1, w32s (by omega) (by omega)]
theorem dg_j {E Q W : Nat} (e : E = Q * 16777216 + W) : ∀ j, j ≤ 5 → E / 16 ^ j % 16 = W / 16 ^ j % 16
  | 0, _ => by rw [show (16 : Nat) ^ 0 = 1 from rfl]; omega
  | 1, _ => by rw [show (16 : Nat) ^ 1 = 16 from rfl]; omega
  | 2, _ => by rw [show (16 : Nat) ^ 2 = 256 from rfl]; omega
  | 3, _ => by rw [show (16 : Nat) ^ 3 = 4096 from rfl]; omega
  | 4, _ => by rw [show (16 : Nat) ^ 4 = 65536 from rfl]; omega
  | 5, _ => by rw [show (16 : Nat) ^ 5 = 1048576 from rfl]; omega
  | _ + 6, h => by omega
theorem cl_w {E P l W k : Nat} (e : E = P * 2 ^ 28 + l * 2 ^ 24 + W) (hP : P ≤ 594) (hl : l ≤ 6) (hW : W < 16777216) (hk : k < l) : g_X6_wordIn (E : Int) (k : Int) = ((W / 16 ^ (l - 1 - k) % 16 : Nat) : Int) := by
  unfold g_X6_wordIn
  rw [cl_m e hP hl hW]
  have e0 : E = (P * 16 + l) * 16777216 + W := by
    rw [e, show (2 : Nat) ^ 28 = 16 * 16777216 from rfl, show (2 : Nat) ^ 24 = 16777216 from rfl, Nat.add_mul, Nat.mul_assoc]
  rw [show (2 : Nat) ^ 28 = 268435456 from rfl, show (2 : Nat) ^ 24 = 16777216 from rfl] at e
  have e2 : w32 (4 * (w32 ((w32 ((l : Int) - 1)) - (k : Int)))) = ((4 * (l - 1 - k) : Nat) : Int) := by
    rw [w32s (i := (l : Int) - 1) (by omega) (by omega), w32s (i := (l : Int) - 1 - (k : Int)) (by omega) (by omega), w32s (by omega) (by omega)]
    omega
  have e3 := dg_j (E := E) (Q := P * 16 + l) (W := W) e0 (l - 1 - k) (by omega)
  clear e0
  rw [e2]
  clear e2
  rw [show (15 : Int) = ((15 : Nat) : Int) from rfl, olshr (by omega) (by omega), oland (Nat.lt_of_le_of_lt (Nat.div_le_self _ _) (by omega)), show (15 : Nat) = 2 ^ 4 - 1 from rfl, Nat.and_two_pow_sub_one_eq_mod, Nat.pow_mul, show (2 : Nat) ^ 4 = 16 from rfl, e3]
  have := Nat.mod_lt (W / 16 ^ (l - 1 - k)) (show 0 < 16 by decide)
  generalize W / 16 ^ (l - 1 - k) % 16 = z at *
  exact w32s (by omega) (by omega)
