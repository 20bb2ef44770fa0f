/-! fractions and their numbers -/
theorem div_lt_div {a b c d : Int} (hb : 0 < b) (hd : 0 < d) : (a : Rat) / (b : Rat) < (c : Rat) / (d : Rat) ↔ a * d < c * b := by
  have hb2 : (0 : Rat) < (b : Rat) := Rat.intCast_pos.mpr hb
  have hd2 : (0 : Rat) < (d : Rat) := Rat.intCast_pos.mpr hd
  rw [Rat.div_lt_iff hb2, show (c : Rat) / (d : Rat) * (b : Rat) = ((c : Rat) * (b : Rat)) / (d : Rat) by grind, Rat.lt_div_iff hd2, ← Rat.intCast_mul, ← Rat.intCast_mul]
  exact Rat.intCast_lt_intCast
theorem sq_lt {a b c d : Int} (hb : 0 < b) (hd : 0 < d) : sg (a * d - c * b) < 0 ↔ (a : Rat) / (b : Rat) < (c : Rat) / (d : Rat) := by rw [sg_lt, div_lt_div hb hd]; omega
theorem sq_gt {a b c d : Int} (hb : 0 < b) (hd : 0 < d) : 0 < sg (a * d - c * b) ↔ (c : Rat) / (d : Rat) < (a : Rat) / (b : Rat) := by rw [sg_gt, div_lt_div hd hb]; omega
theorem sq_le {a b c d : Int} (hb : 0 < b) (hd : 0 < d) : sg (a * d - c * b) ≤ 0 ↔ (a : Rat) / (b : Rat) ≤ (c : Rat) / (d : Rat) := by
  have := sq_gt (a := a) (c := c) hb hd
  rw [← Rat.not_lt, ← this]; omega
theorem sq_ge {a b c d : Int} (hb : 0 < b) (hd : 0 < d) : 0 ≤ sg (a * d - c * b) ↔ (c : Rat) / (d : Rat) ≤ (a : Rat) / (b : Rat) := by
  have := sq_lt (a := a) (c := c) hb hd
  rw [← Rat.not_lt, ← this]; omega
theorem sq_eq {a b c d : Int} (hb : 0 < b) (hd : 0 < d) : sg (a * d - c * b) = 0 ↔ (a : Rat) / (b : Rat) = (c : Rat) / (d : Rat) := by
  have h1 := sq_le (a := a) (c := c) hb hd
  have h2 := sq_ge (a := a) (c := c) hb hd
  constructor
  · intro h
    have := h1.mp (by omega)
    have := h2.mp (by omega)
    grind
  · intro h
    have := h1.mpr (by grind)
    have := h2.mpr (by grind)
    omega
theorem rat_nd (r : Rat) : (r.num : Rat) / ((r.den : Int) : Rat) = r := by
  rw [← Rat.divInt_eq_div]; exact Rat.num_divInt_den r
theorem den_p (r : Rat) : 0 < (r.den : Int) := by have := r.den_pos; omega
/-- a number as its own fraction -/
theorem rat_1 (z : Int) : (z : Rat) / ((1 : Int) : Rat) = (z : Rat) := by rw [Rat.intCast_one]; grind
/-- within bounds -/
def Pt (NP NQ : Int) (r : Rat) : Prop := -NP ≤ r.num ∧ r.num ≤ NP ∧ (r.den : Int) ≤ NQ
theorem m_lieR {NP NQ : Int} (h : xH) (h1 : NP ≤ 4611686018427387904) (h2 : NQ ≤ 4611686018427387904) {r s : Rat} (hr : Pt NP NQ r) (hs : Pt NP NQ s) : fX7_lie (i64 r.num) (i64 r.den) (i64 s.num) (i64 s.den) h = some (i32 (sg (r.num * s.den - s.num * r.den)), h) := by
  have d1 := den_p r
  have d2 := den_p s
  obtain ⟨a1, a2, a3⟩ := hr
  obtain ⟨b1, b2, b3⟩ := hs
  exact m_lie h ⟨by omega, by omega⟩ d1 ⟨by omega, by omega⟩ ⟨by omega, by omega⟩ d2 ⟨by omega, by omega⟩
theorem sr_lt {r s : Rat} : sg (r.num * s.den - s.num * r.den) < 0 ↔ r < s := by rw [sq_lt (den_p r) (den_p s), rat_nd, rat_nd]
theorem sr_gt {r s : Rat} : 0 < sg (r.num * s.den - s.num * r.den) ↔ s < r := by rw [sq_gt (den_p r) (den_p s), rat_nd, rat_nd]
theorem sr_le {r s : Rat} : sg (r.num * s.den - s.num * r.den) ≤ 0 ↔ r ≤ s := by rw [sq_le (den_p r) (den_p s), rat_nd, rat_nd]
theorem sr_ge {r s : Rat} : 0 ≤ sg (r.num * s.den - s.num * r.den) ↔ s ≤ r := by rw [sq_ge (den_p r) (den_p s), rat_nd, rat_nd]
theorem sr_eq {r s : Rat} : sg (r.num * s.den - s.num * r.den) = 0 ↔ r = s := by rw [sq_eq (den_p r) (den_p s), rat_nd, rat_nd]
theorem si_lt (z : Int) : i32 (sg z) < 0 ↔ sg z < 0 := i32_lt (b := 0) ⟨by have := sg_b z; omega, by have := sg_b z; omega⟩ ⟨by decide, by decide⟩
theorem si_gt (z : Int) : 0 < i32 (sg z) ↔ 0 < sg z := i32_lt (a := 0) ⟨by decide, by decide⟩ ⟨by have := sg_b z; omega, by have := sg_b z; omega⟩
theorem si_le (z : Int) : i32 (sg z) ≤ 0 ↔ sg z ≤ 0 := i32_le (b := 0) ⟨by have := sg_b z; omega, by have := sg_b z; omega⟩ ⟨by decide, by decide⟩
theorem si_ge (z : Int) : 0 ≤ i32 (sg z) ↔ 0 ≤ sg z := i32_le (a := 0) ⟨by decide, by decide⟩ ⟨by have := sg_b z; omega, by have := sg_b z; omega⟩
theorem si_eq (z : Int) : i32 (sg z) = 0 ↔ sg z = 0 := i32_eq (b := 0) ⟨by have := sg_b z; omega, by have := sg_b z; omega⟩ ⟨by decide, by decide⟩
/-! the greatest common divisor -/
theorem m_common_l : ∀ (k n : Nat) (x y : Int) (h : xH), 0 ≤ x → Q x → 0 ≤ y → Q y → (0 < y → (x % y) * y < 2 ^ k) → k + 1 < n → fX7_common_l28 n (i64 x) (i64 y) h = some (i64 (Int.gcd x y), h) := by
  have z0 : B64 0 := ⟨by decide, by decide⟩
  have step : ∀ (m : Nat) (x y : Int) (h : xH), 0 ≤ x → Q x → 0 ≤ y → Q y → (0 < y → fX7_common_l28 m (i64 y) (i64 (x % y)) h = some (i64 (Int.gcd y (x % y)), h)) → fX7_common_l28 (m + 1) (i64 x) (i64 y) h = some (i64 (Int.gcd x y), h) := by
    intro m x y h hx hx2 hy hy2 hrec
    show fX7_common_b28 (fX7_common_l28 m) (i64 x) (i64 y) h = _
    unfold fX7_common_b28
    rw [show (0 : Int64) = i64 0 from rfl]
    by_cases h0 : y = 0
    · rw [if_pos ((lz_eq hy2.b z0).mpr h0), h0]
      congr 3
      simp
      omega
    · rw [if_neg (fun q => h0 ((lz_eq hy2.b z0).mp q)), if_pos (fun q => h0 ((i64_eq hy2.b z0).mp q)), lt_def, i64_div hx2.b hy2.b, i64_mul, i64_sub, rem_t, Int.tmod_eq_emod_of_nonneg hx, hrec (by omega)]
      congr 3
      obtain ⟨a, rfl⟩ := Int.eq_ofNat_of_zero_le hx
      obtain ⟨b, rfl⟩ := Int.eq_ofNat_of_zero_le hy
      rw [← Int.natCast_emod]
      show ((Nat.gcd b (a % b) : Nat) : Int) = ((Nat.gcd a b : Nat) : Int)
      rw [Nat.gcd_comm b (a % b), ← Nat.gcd_rec b a, Nat.gcd_comm b a]
  intro k
  induction k with
  | zero =>
    intro n x y h hx hx2 hy hy2 hk hn
    obtain ⟨m, rfl⟩ : ∃ m, n = m + 2 := ⟨n - 2, by omega⟩
    refine step (m + 1) x y h hx hx2 hy hy2 (fun hy0 => ?_)
    have r0 := Int.emod_nonneg x (by omega : y ≠ 0)
    have hz : x % y = 0 := by
      apply Classical.byContradiction
      intro hne
      have : 1 * 1 ≤ x % y * y := Int.mul_le_mul (by omega) (by omega) (by decide) r0
      have := hk hy0
      simp at this; omega
    rw [hz]
    exact step m y 0 h hy hy2 (by omega) ⟨by decide, by decide⟩ (fun q => by omega)
  | succ k ih =>
    intro n x y h hx hx2 hy hy2 hk hn
    obtain ⟨m, rfl⟩ : ∃ m, n = m + 1 := ⟨n - 1, by omega⟩
    refine step m x y h hx hx2 hy hy2 (fun hy0 => ?_)
    have r0 := Int.emod_nonneg x (by omega : y ≠ 0)
    have r1 := Int.emod_lt_of_pos x hy0
    refine ih m y (x % y) h hy hy2 r0 (Q_mod hy0 hy2) (fun hr0 => half_step hr0 r1 ?_) (by omega)
    have := hk hy0
    rw [Int.pow_succ] at this
    omega
theorem m_common {a b : Int} (ha : Q a) (hb : Q b) (h : xH) : fX7_common (i64 a) (i64 b) h = some (i64 (Int.gcd a b), h) := by
  have z0 : B64 0 := ⟨by decide, by decide⟩
  have main : ∀ x y : Int, 0 ≤ x → Q x → 0 ≤ y → Q y → fX7_common_l28 FU (i64 x) (i64 y) h = some (i64 (Int.gcd x y), h) := by
    intro x y hx hx2 hy hy2
    refine m_common_l 130 FU x y h hx hx2 hy hy2 (fun hy0 => ?_) (by rw [FU_eq]; decide)
    have r0 := Int.emod_nonneg x (by omega : y ≠ 0)
    have r1 := Int.emod_lt_of_pos x hy0
    have h1 : x % y * y ≤ 4611686018427387904 * 4611686018427387904 := Int.mul_le_mul (by have := hy2.2; omega) hy2.2 (by omega) (by decide)
    have h2 : (4611686018427387904 * 4611686018427387904 : Int) < 2 ^ 130 := by decide
    omega
  have b12 : ∀ x : Int, 0 ≤ x → Q x → fX7_common_b12 (i64 x) (i64 b) h = some (i64 (Int.gcd x b), h) := by
    intro x hx hx2
    unfold fX7_common_b12 fX7_common_b26
    rw [show (0 : Int64) = i64 0 from rfl]
    by_cases h0 : 0 ≤ b
    · rw [if_pos ((lz_ge hb.b z0).mpr h0)]
      exact main x b hx hx2 h0 hb
    · rw [if_neg (fun q => h0 ((lz_ge hb.b z0).mp q)), i64_neg, main x (-b) hx hx2 (by omega) ⟨by have := hb.2; omega, by have := hb.1; omega⟩, Int.gcd_neg]
  unfold fX7_common
  rw [show (0 : Int64) = i64 0 from rfl]
  by_cases h0 : 0 ≤ a
  · rw [if_pos ((lz_ge ha.b z0).mpr h0)]
    exact b12 a h0 ha
  · rw [if_neg (fun q => h0 ((lz_ge ha.b z0).mp q)), i64_neg, b12 (-a) (by omega) ⟨by have := ha.2; omega, by have := ha.1; omega⟩, Int.neg_gcd]
/-- lowest terms -/
theorem low_terms {a b : Int} (hb : b ≠ 0) : ((a : Rat) / (b : Rat)).num = a.tdiv ((Int.gcd a b : Int) * (if b < 0 then -1 else 1)) ∧ ((((a : Rat) / (b : Rat)).den : Nat) : Int) = b.tdiv ((Int.gcd a b : Int) * (if b < 0 then -1 else 1)) := by
  rw [← Rat.divInt_eq_div, Rat.num_divInt, Rat.den_divInt, if_neg hb]
  have hg : (0 : Int) < (Int.gcd a b : Int) := by
    have := Int.gcd_pos_iff (a := a) (b := b)
    have : 0 < Int.gcd a b := Int.gcd_pos_of_ne_zero_right a hb
    omega
  obtain ⟨u, hu⟩ : (Int.gcd a b : Int) ∣ a := Int.gcd_dvd_left a b
  obtain ⟨v, hv⟩ : (Int.gcd a b : Int) ∣ b := Int.gcd_dvd_right a b
  rw [Int.gcd_comm b a]
  generalize Int.gcd a b = g at *
  have hg0 : (g : Int) ≠ 0 := by omega
  constructor
  · by_cases hb0 : b < 0
    · rw [if_pos hb0, Int.sign_eq_neg_one_of_neg hb0, hu]
      rw [show (-1 : Int) * ((g : Int) * u) = (g : Int) * (-u) by rw [Int.mul_neg]; omega, Int.mul_ediv_cancel_left _ hg0]
      rw [show (g : Int) * -1 = -(g : Int) by omega, Int.tdiv_neg, Int.mul_tdiv_cancel_left _ hg0]
    · rw [if_neg hb0, Int.sign_eq_one_of_pos (by omega), hu, Int.one_mul, Int.mul_one, Int.mul_ediv_cancel_left _ hg0, Int.mul_tdiv_cancel_left _ hg0]
  · by_cases hb0 : b < 0
    · rw [if_pos hb0]
      rw [show (g : Int) * -1 = -(g : Int) by omega]
      have hv0 : v < 0 := by
        apply Classical.byContradiction
        intro hn
        have := Int.mul_nonneg (show (0 : Int) ≤ g by omega) (show 0 ≤ v by omega)
        omega
      rw [hv, Int.tdiv_neg, Int.mul_tdiv_cancel_left _ hg0]
      have e : ((g : Int) * v).natAbs = g * v.natAbs := by rw [Int.natAbs_mul]; simp
      rw [e, Nat.mul_div_cancel_left _ (by omega)]
      omega
    · rw [if_neg hb0, Int.mul_one]
      have hv0 : 0 < v := by
        apply Classical.byContradiction
        intro hn
        have := Int.mul_nonneg (show (0 : Int) ≤ g by omega) (show 0 ≤ -v by omega)
        rw [Int.mul_neg] at this
        omega
      rw [hv, Int.mul_tdiv_cancel_left _ hg0]
      have e : ((g : Int) * v).natAbs = g * v.natAbs := by rw [Int.natAbs_mul]; simp
      rw [e, Nat.mul_div_cancel_left _ (by omega)]
      omega
