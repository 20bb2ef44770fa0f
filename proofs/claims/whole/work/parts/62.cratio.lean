/-! THE CLASS' NUMBERS: floorDiv, compare, order, commonDivisor -/
theorem nn_msb (a : Int64) : 0 ≤ a ↔ a.toBitVec.msb = false := by
  rw [Int64.le_iff_toInt_le, BitVec.msb_eq_toInt]
  have e : a.toBitVec.toInt = a.toInt := rfl
  have e0 : (0 : Int64).toInt = 0 := rfl
  rw [e, e0]
  simp
theorem xor_nn {a b : Int64} (hb : 0 ≤ b) : 0 ≤ (a ^^^ b) ↔ 0 ≤ a := by
  rw [nn_msb, nn_msb]
  have h1 := (nn_msb b).mp hb
  rw [Int64.toBitVec_xor, BitVec.msb_xor, h1]
  simp
theorem c_fdiv {a b : Int} (ha : B64 a) (hb : 0 < b) (hb2 : B64 b) (h : xH) : fJ9_floorDiv_f86c9 (i64 a) (i64 b) h = some (i64 (a / b), h) := by
  unfold fJ9_floorDiv_f86c9
  have z0 : B64 0 := ⟨by decide, by decide⟩
  have hne : ¬ i64 b = 0 := fun q => by
    have := (i64_eq hb2 z0).mp q
    omega
  have hr : a - a.tdiv b * b = a.tmod b := rem_t
  have h5 : a.tmod b < b := Int.tmod_lt_of_pos a hb
  have h6 : -b < a.tmod b := Int.lt_tmod_of_pos a hb
  have hd := dw_eq (a := a) hb
  have hs : (0 ≤ lg_cmp (i64 a ^^^ i64 b) 0) ↔ 0 ≤ a := by
    rw [lg_cmp_ge, xor_nn ((i64_le (a := 0) z0 hb2).mpr (by omega))]
    exact i64_le (a := 0) z0 ha
  rw [if_pos hne, lt_def, i64_div ha hb2, i64_mul, o64, i64_sub]
  by_cases h0 : 0 ≤ a
  · rw [if_pos (hs.mpr h0)]
    have : 0 ≤ a.tmod b := Int.tmod_nonneg b h0
    rw [hd, if_pos this]
  · rw [if_neg (fun q => h0 (hs.mp q))]
    have hle : a.tmod b ≤ 0 := by
      have := Int.tmod_nonneg (a := -a) b (by omega)
      rw [Int.neg_tmod] at this
      omega
    have Bv : B64 (a.tdiv b * b) := ⟨by have := ha.1; omega, by have := hb2.2; omega⟩
    by_cases h1 : a.tdiv b * b = a
    · rw [if_pos ((lz_eq Bv ha).mpr h1), hd, if_pos (by omega)]
    · rw [if_neg (fun q => h1 ((lz_eq Bv ha).mp q)), hd, if_neg (by omega)]
theorem c_cmp {a b : Int} (ha : B64 a) (hb : B64 b) (h : xH) : fJ13_compare_74951 (i64 a) (i64 b) h = some (i32 (sg (a - b)), h) := by
  unfold fJ13_compare_74951
  by_cases h1 : b ≤ a
  · rw [if_pos ((lz_ge ha hb).mpr h1)]
    by_cases h2 : a = b
    · rw [if_pos ((lz_eq ha hb).mpr h2), show sg (a - b) = 0 by rw [sg_eq]; omega]; rfl
    · rw [if_neg (fun q => h2 ((lz_eq ha hb).mp q)), show sg (a - b) = 1 by unfold sg; rw [if_neg (by omega), if_neg (by omega)]]; rfl
  · rw [if_neg (fun q => h1 ((lz_ge ha hb).mp q)), show sg (a - b) = -1 by unfold sg; rw [if_pos (by omega)]]; rfl
theorem c_order {a b c d : Int} (ha : Q a) (hb : 0 < b) (hc : Q c) (hd : 0 < d) (hbd : b * d ≤ 4611686018427387904) (h : xH) : fX2_order (i64 a) (i64 b) (i64 c) (i64 d) h = some (i32 (sg (a * d - c * b)), h) := by
  have z0 : B64 0 := ⟨by decide, by decide⟩
  have k1 : b * 1 ≤ b * d := Int.mul_le_mul_of_nonneg_left (by omega) (by omega)
  have k2 : 1 * d ≤ b * d := Int.mul_le_mul_of_nonneg_right (by omega) (by omega)
  have qb : Q b := ⟨by omega, by omega⟩
  have qd : Q d := ⟨by omega, by omega⟩
  unfold fX2_order
  rw [z64, if_neg (fun q => by have := (lz_le qb.b z0).mp q; omega), if_pos ((lz_gt qd.b z0).mpr hd), c_fdiv ha.b hb qb.b, bd_some, c_fdiv hc.b hd qd.b, bd_some]
  have qp := (Q_div ha hb).b
  have qq := (Q_div hc hd).b
  have r0 := Int.emod_nonneg a (by omega : b ≠ 0)
  have s0 := Int.emod_nonneg c (by omega : d ≠ 0)
  have r1 := Int.emod_lt_of_pos a hb
  have s1 := Int.emod_lt_of_pos c hd
  by_cases he : a / b = c / d
  · rw [if_pos ((lz_eq qp qq).mpr he), i64_mul, i64_sub, i64_mul, i64_mul, i64_sub, i64_mul, mod_e, mod_e, lie_eq he]
    have t1 : a % b * d ≤ b * d := Int.mul_le_mul_of_nonneg_right (by omega) (by omega)
    have t2 : c % d * b ≤ d * b := Int.mul_le_mul_of_nonneg_right (by omega) (by omega)
    have t3 := Int.mul_nonneg r0 (show 0 ≤ d by omega)
    have t4 := Int.mul_nonneg s0 (show 0 ≤ b by omega)
    rw [Int.mul_comm d b] at t2
    rw [c_cmp ⟨by omega, by omega⟩ ⟨by omega, by omega⟩, bd_some]
  · rw [if_neg (fun q => he ((lz_eq qp qq).mp q))]
    by_cases hl : a / b < c / d
    · rw [if_neg (fun q => by have := (lz_ge qp qq).mp q; omega)]
      have := lie_ne hb hd hl
      rw [show sg (a * d - c * b) = -1 by unfold sg; rw [if_pos (by omega)]]; rfl
    · rw [if_pos ((lz_ge qp qq).mpr (by omega))]
      have := lie_ne hd hb (show c / d < a / b by omega)
      rw [show sg (a * d - c * b) = 1 by unfold sg; rw [if_neg (by omega), if_neg (by omega)]]; rfl
theorem c_abs {a : Int} (ha : Q a) (h : xH) : fJ9_abs_067f4 (i64 a) h = some (i64 (a.natAbs : Int), h) := by
  unfold fJ9_abs_067f4
  have z0 : B64 0 := ⟨by decide, by decide⟩
  rw [z64]
  by_cases h0 : 0 ≤ a
  · rw [if_pos ((lz_ge ha.b z0).mpr h0), show (a.natAbs : Int) = a by omega]
  · rw [if_neg (fun q => h0 ((lz_ge ha.b z0).mp q)), i64_neg, show (a.natAbs : Int) = -a by omega]
theorem gcd_step {x y : Int} (hx : 0 ≤ x) (hy : 0 ≤ y) : Int.gcd y (x % y) = Int.gcd x y := by
  obtain ⟨a, rfl⟩ := Int.eq_ofNat_of_zero_le hx
  obtain ⟨b, rfl⟩ := Int.eq_ofNat_of_zero_le hy
  rw [← Int.natCast_emod]
  show Nat.gcd b (a % b) = Nat.gcd a b
  rw [Nat.gcd_comm b (a % b), ← Nat.gcd_rec b a, Nat.gcd_comm b a]
theorem c_cdl : ∀ (k n j : Nat) (x y : Int) (h : xH), 0 ≤ x → Q x → 0 ≤ y → Q y → (0 < y → (x % y) * y < 2 ^ k) → k + 1 < n → j + k + 2 ≤ 200 → fX2_commonDivisor_l15 n (i64 x) (i64 y) (i32 j) h = some (i64 (Int.gcd x y), h) := by
  intro k
  have z0 : B64 0 := ⟨by decide, by decide⟩
  have base : ∀ (n j : Nat) (x : Int) (h : xH), 0 ≤ x → 0 < n → j < 200 → fX2_commonDivisor_l15 n (i64 x) (i64 0) (i32 j) h = some (i64 (Int.gcd x 0), h) := by
    intro n j x h hx hn hj
    obtain ⟨m, rfl⟩ : ∃ m, n = m + 1 := ⟨n - 1, by omega⟩
    show fX2_commonDivisor_b15 _ _ _ _ _ = _
    unfold fX2_commonDivisor_b15
    rw [show (200 : Int32) = i32 200 from rfl, if_neg (fun q => by have := (i32_le ⟨by omega, by omega⟩ ⟨by omega, by omega⟩).mp q; omega), z64, if_pos ((lz_eq z0 z0).mpr rfl), Int.gcd_zero_right, show (x.natAbs : Int) = x by omega]
  have step : ∀ (n j : Nat) (x y : Int) (h : xH), 0 ≤ x → Q x → 0 < y → Q y → j < 200 → fX2_commonDivisor_l15 (n + 1) (i64 x) (i64 y) (i32 j) h = fX2_commonDivisor_l15 n (i64 y) (i64 (x % y)) (i32 ((j + 1 : Nat) : Int)) h := by
    intro n j x y h hx qx hy qy hj
    show fX2_commonDivisor_b15 _ _ _ _ _ = _
    unfold fX2_commonDivisor_b15
    rw [show (200 : Int32) = i32 200 from rfl, if_neg (fun q => by have := (i32_le ⟨by omega, by omega⟩ ⟨by omega, by omega⟩).mp q; omega), z64, if_neg (fun q => by have := (lz_eq qy.b z0).mp q; omega), if_pos (fun q => by have := (i64_eq qy.b z0).mp q; omega), lt_def, lt_def, i64_div qx.b qy.b, i64_mul, i64_sub, rem_t, one32, i32_add, Int.tmod_eq_emod_of_nonneg hx]
    rfl
  induction k with
  | zero =>
    intro n j x y h hx qx hy qy hk hn hj
    by_cases c : y = 0
    · rw [c]; exact base n j x h hx (by omega) (by omega)
    · obtain ⟨m, rfl⟩ : ∃ m, n = m + 1 := ⟨n - 1, by omega⟩
      have r0 := Int.emod_nonneg x c
      have hk' := hk (by omega)
      have e : x % y = 0 := by
        apply Classical.byContradiction
        intro hne
        have : 1 * 1 ≤ x % y * y := Int.mul_le_mul (by omega) (by omega) (by decide) r0
        simp at hk'; omega
      rw [step m j x y h hx qx (by omega) qy (by omega), ← gcd_step hx hy, e, base m (j + 1) y h hy (by omega) (by omega)]
  | succ k ih =>
    intro n j x y h hx qx hy qy hk hn hj
    by_cases c : y = 0
    · rw [c]; exact base n j x h hx (by omega) (by omega)
    · obtain ⟨m, rfl⟩ : ∃ m, n = m + 1 := ⟨n - 1, by omega⟩
      have r0 := Int.emod_nonneg x c
      have r1 := Int.emod_lt_of_pos x (show 0 < y by omega)
      have hk' := hk (by omega)
      rw [step m j x y h hx qx (by omega) qy (by omega), ih m (j + 1) y (x % y) h hy qy r0 (Q_mod (by omega) qy) (fun hp => half_step hp r1 (by rw [Int.pow_succ] at hk'; omega)) (by omega) (by omega)]
      rw [gcd_step hx hy]
theorem c_cd {a b : Int} (ha : Q a) (hb : Q b) (h : xH) : fX2_commonDivisor (i64 a) (i64 b) h = some (i64 (Int.gcd a b), h) := by
  unfold fX2_commonDivisor
  have qa : Q (a.natAbs : Int) := ⟨by omega, by have := ha.1; have := ha.2; omega⟩
  have qb : Q (b.natAbs : Int) := ⟨by omega, by have := hb.1; have := hb.2; omega⟩
  rw [c_abs ha, bd_some, c_abs hb, bd_some, lt_def, show (0 : Int32) = i32 ((0 : Nat) : Int) from rfl, c_cdl 130 FU 0 _ _ h (by omega) qa (by omega) qb (fun hp => ?_) (by rw [FU_eq]; decide) (by decide)]
  · congr 4
  · have r0 := Int.emod_nonneg (a.natAbs : Int) (show (b.natAbs : Int) ≠ 0 by omega)
    have r1 := Int.emod_lt_of_pos (a.natAbs : Int) hp
    have h1 : (a.natAbs : Int) % (b.natAbs : Int) * (b.natAbs : Int) ≤ 4611686018427387904 * 4611686018427387904 := Int.mul_le_mul (by have := qb.2; omega) qb.2 (by omega) (by decide)
    have h2 : (4611686018427387904 * 4611686018427387904 : Int) < 2 ^ 130 := by decide
    omega
