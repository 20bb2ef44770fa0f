/-! NUMBERS: machine numbers as images of whole ones -/
abbrev i32 (z : Int) : Int32 := Int32.ofInt z
abbrev i64 (z : Int) : Int64 := Int64.ofInt z
def B32 (z : Int) : Prop := -2147483648 ≤ z ∧ z ≤ 2147483647
def B64 (z : Int) : Prop := -9223372036854775808 ≤ z ∧ z ≤ 9223372036854775807
theorem i64_lt {a b : Int} (ha : B64 a) (hb : B64 b) : i64 a < i64 b ↔ a < b := Int64.ofInt_lt_iff_lt ha.1 ha.2 hb.1 hb.2
theorem i64_le {a b : Int} (ha : B64 a) (hb : B64 b) : i64 a ≤ i64 b ↔ a ≤ b := Int64.ofInt_le_iff_le ha.1 ha.2 hb.1 hb.2
theorem i64_eq {a b : Int} (ha : B64 a) (hb : B64 b) : i64 a = i64 b ↔ a = b := by
  constructor
  · intro h
    have h1 := congrArg Int64.toInt h
    have e1 := Int64.toInt_ofInt_of_le (n := a) ha.1 (by have := ha.2; omega)
    have e2 := Int64.toInt_ofInt_of_le (n := b) hb.1 (by have := hb.2; omega)
    rw [e1, e2] at h1
    exact h1
  · intro h; rw [h]
theorem i32_lt {a b : Int} (ha : B32 a) (hb : B32 b) : i32 a < i32 b ↔ a < b := Int32.ofInt_lt_iff_lt ha.1 ha.2 hb.1 hb.2
theorem i32_le {a b : Int} (ha : B32 a) (hb : B32 b) : i32 a ≤ i32 b ↔ a ≤ b := Int32.ofInt_le_iff_le ha.1 ha.2 hb.1 hb.2
theorem i32_eq {a b : Int} (ha : B32 a) (hb : B32 b) : i32 a = i32 b ↔ a = b := by
  constructor
  · intro h
    have h1 := congrArg Int32.toInt h
    have e1 := Int32.toInt_ofInt_of_le (n := a) ha.1 (by have := ha.2; omega)
    have e2 := Int32.toInt_ofInt_of_le (n := b) hb.1 (by have := hb.2; omega)
    rw [e1, e2] at h1
    exact h1
  · intro h; rw [h]
theorem i64_toInt {a : Int} (ha : B64 a) : (i64 a).toInt = a := Int64.toInt_ofInt_of_le ha.1 (by have := ha.2; omega)
theorem i32_toInt {a : Int} (ha : B32 a) : (i32 a).toInt = a := Int32.toInt_ofInt_of_le ha.1 (by have := ha.2; omega)
theorem i64_of32 {z : Int} (h : B32 z) : (i32 z).toInt64 = i64 z := Int32.toInt64_ofInt h.1 h.2
theorem i32_of64 (z : Int) : (i64 z).toInt32 = i32 z := Int64.toInt32_ofInt
theorem i32_nat {z : Int} (h : 0 ≤ z) (h2 : z ≤ 2147483647) : (i32 z).toNatClampNeg = z.toNat := by
  show (i32 z).toInt.toNat = z.toNat
  rw [i32_toInt ⟨by omega, h2⟩]
theorem i64_add (a b : Int) : i64 a + i64 b = i64 (a + b) := (Int64.ofInt_add a b).symm
theorem i64_sub (a b : Int) : i64 a - i64 b = i64 (a - b) := (Int64.ofInt_sub a b).symm
theorem i64_mul (a b : Int) : i64 a * i64 b = i64 (a * b) := (Int64.ofInt_mul a b).symm
theorem i64_neg (a : Int) : -i64 a = i64 (-a) := (Int64.ofInt_neg a).symm
theorem i32_add (a b : Int) : i32 a + i32 b = i32 (a + b) := (Int32.ofInt_add a b).symm
theorem i32_sub (a b : Int) : i32 a - i32 b = i32 (a - b) := (Int32.ofInt_sub a b).symm
theorem i32_mul (a b : Int) : i32 a * i32 b = i32 (a * b) := (Int32.ofInt_mul a b).symm
theorem i32_neg (a : Int) : -i32 a = i32 (-a) := (Int32.ofInt_neg a).symm
theorem i64_div {a b : Int} (ha : B64 a) (hb : B64 b) : i64 a / i64 b = i64 (a.tdiv b) := (Int64.ofInt_tdiv ha.1 ha.2 hb.1 hb.2).symm
theorem i32_div {a b : Int} (ha : B32 a) (hb : B32 b) : i32 a / i32 b = i32 (a.tdiv b) := (Int32.ofInt_tdiv ha.1 ha.2 hb.1 hb.2).symm
theorem i64_ex (x : Int64) : ∃ z, B64 z ∧ x = i64 z := ⟨x.toInt, ⟨Int64.le_toInt x, by have := Int64.toInt_lt x; omega⟩, (Int64.ofInt_toInt x).symm⟩
theorem i32_ex (x : Int32) : ∃ z, B32 z ∧ x = i32 z := ⟨x.toInt, ⟨Int32.le_toInt x, by have := Int32.toInt_lt x; omega⟩, (Int32.ofInt_toInt x).symm⟩
theorem l32 (n : Nat) : (OfNat.ofNat n : Int32) = i32 (n : Int) := (Int32.ofInt_eq_ofNat (n := n)).symm
theorem l64 (n : Nat) : (OfNat.ofNat n : Int64) = i64 (n : Int) := (Int64.ofInt_eq_ofNat (n := n)).symm
/-! the sign of a number -/
def sg (z : Int) : Int := if z < 0 then -1 else if z = 0 then 0 else 1
theorem sg_neg (z : Int) : sg (-z) = -sg z := by unfold sg; split <;> split <;> (try split) <;> (try split) <;> omega
theorem sg_lt {z : Int} : sg z < 0 ↔ z < 0 := by unfold sg; split <;> (try split) <;> omega
theorem sg_gt {z : Int} : 0 < sg z ↔ 0 < z := by unfold sg; split <;> (try split) <;> omega
theorem sg_eq {z : Int} : sg z = 0 ↔ z = 0 := by unfold sg; split <;> (try split) <;> omega
theorem sg_le {z : Int} : sg z ≤ 0 ↔ z ≤ 0 := by unfold sg; split <;> (try split) <;> omega
theorem sg_ge {z : Int} : 0 ≤ sg z ↔ 0 ≤ z := by unfold sg; split <;> (try split) <;> omega
theorem sg_b (z : Int) : -1 ≤ sg z ∧ sg z ≤ 1 := by unfold sg; split <;> (try split) <;> omega
/-! the machine's comparison of longs -/
theorem lz_ge {a b : Int} (ha : B64 a) (hb : B64 b) : (0 ≤ lg_cmp (i64 a) (i64 b)) ↔ b ≤ a := (lg_cmp_ge _ _).trans (i64_le hb ha)
theorem lz_le {a b : Int} (ha : B64 a) (hb : B64 b) : (lg_cmp (i64 a) (i64 b) ≤ 0) ↔ a ≤ b := (lg_cmp_le _ _).trans (i64_le ha hb)
theorem lz_gt {a b : Int} (ha : B64 a) (hb : B64 b) : (0 < lg_cmp (i64 a) (i64 b)) ↔ b < a := (lg_cmp_gt _ _).trans (i64_lt hb ha)
theorem lz_lt {a b : Int} (ha : B64 a) (hb : B64 b) : (lg_cmp (i64 a) (i64 b) < 0) ↔ a < b := (lg_cmp_lt _ _).trans (i64_lt ha hb)
theorem lz_eq {a b : Int} (ha : B64 a) (hb : B64 b) : (lg_cmp (i64 a) (i64 b) = 0) ↔ a = b := (lg_cmp_eq _ _).trans (i64_eq ha hb)
/-! whole parts -/
theorem rem_t {a b : Int} : a - a.tdiv b * b = a.tmod b := by
  have h := Int.tmod_add_mul_tdiv a b
  rw [Int.mul_comm] at h
  omega
theorem dw_eq {a b : Int} (hb : 0 < b) : a / b = if 0 ≤ a.tmod b then a.tdiv b else a.tdiv b - 1 := by
  have h1 := Int.tmod_add_mul_tdiv a b
  have h2 := Int.emod_add_mul_ediv a b
  have h3 := Int.emod_nonneg a (by omega : b ≠ 0)
  have h4 := Int.emod_lt_of_pos a hb
  have h5 : a.tmod b < b := Int.tmod_lt_of_pos a hb
  have h6 : -b < a.tmod b := Int.lt_tmod_of_pos a hb
  have key : ∀ q r : Int, r + b * q = a → 0 ≤ r → r < b → a / b = q := by
    intro q r e r0 rb
    have : a = r + b * q := e.symm
    rw [this, Int.add_mul_ediv_left _ _ (by omega : b ≠ 0), Int.ediv_eq_zero_of_lt r0 rb]
    omega
  split
  · exact key _ (a.tmod b) h1 (by omega) h5
  · refine key _ (a.tmod b + b) ?_ (by omega) (by omega)
    rw [Int.mul_sub]; omega
theorem bd_some {α β : Type} (r : α) (g : xH) (k : α → xH → Option β) : bd (some (r, g)) k = k r g := rfl
theorem lt_def {α β : Type} (a : α) (f : α → β) : lt a f = f a := rfl
