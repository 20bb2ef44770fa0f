/-! LEAVES: small functions of numbers -/
def bz (b : Bool) : Int32 := if b then 1 else 0
theorem bz_t : bz true = 1 := rfl
theorem bz_f : bz false = 0 := rfl
theorem bz_01 (b : Bool) : bz b = 0 ∨ bz b = 1 := by cases b; exact Or.inl rfl; exact Or.inr rfl
theorem bz_0 (b : Bool) : bz b = 0 ↔ b = false := by cases b <;> simp [bz]
theorem bz_n0 (b : Bool) : ¬ bz b = 0 ↔ b = true := by cases b <;> simp [bz]
theorem m_in {a b c : Int} (ha : B64 a) (hb : B64 b) (hc : B64 c) (h : xH) : fX7_in (i64 a) (i64 b) (i64 c) h = some (bz (decide (b ≤ a ∧ a ≤ c)), h) := by
  unfold fX7_in
  by_cases h1 : a < b
  · rw [if_pos ((lz_lt ha hb).mpr h1)]
    rw [show decide (b ≤ a ∧ a ≤ c) = false by simp; omega]; rfl
  · rw [if_neg (fun q => h1 ((lz_lt ha hb).mp q))]
    by_cases h2 : c < a
    · rw [if_pos ((lz_gt ha hc).mpr h2)]
      rw [show decide (b ≤ a ∧ a ≤ c) = false by simp; omega]; rfl
    · rw [if_neg (fun q => h2 ((lz_gt ha hc).mp q))]
      rw [show decide (b ≤ a ∧ a ≤ c) = true by simp; omega]; rfl
theorem m_isPlace {a : Int} (ha : B64 a) (h : xH) : fX7_isPlace (i64 a) h = some (bz (decide (-5940 ≤ a ∧ a ≤ 5940)), h) := by
  unfold fX7_isPlace
  rw [show (-5940 : Int64) = i64 (-5940) from rfl, show (5940 : Int64) = i64 5940 from rfl, m_in ha ⟨by decide, by decide⟩ ⟨by decide, by decide⟩, bd_some, if_pos (bz_01 _)]
theorem m_isStore {a : Int} (ha : B32 a) (h : xH) : fX7_isStore (i32 a) h = some (bz (decide (0 ≤ a ∧ a ≤ 5)), h) := by
  unfold fX7_isStore
  have hb : B64 a := ⟨by have := ha.1; omega, by have := ha.2; omega⟩
  rw [show (0 : Int64) = i64 0 from rfl, show (5 : Int64) = i64 5 from rfl, i64_of32 ha, m_in hb ⟨by decide, by decide⟩ ⟨by decide, by decide⟩, bd_some, if_pos (bz_01 _)]
theorem m_down {a b : Int} (ha : B64 a) (hb : 0 < b) (hb2 : B64 b) (h : xH) : fX7_down (i64 a) (i64 b) h = some (i64 (a / b), h) := by
  unfold fX7_down
  have hne : ¬ i64 b = 0 := fun q => by
    have := (i64_eq hb2 (show B64 0 from ⟨by decide, by decide⟩)).mp q
    omega
  have hr : a - a.tdiv b * b = a.tmod b := rem_t
  have h5 : a.tmod b < b := Int.tmod_lt_of_pos a hb
  have h6 : -b < a.tmod b := Int.lt_tmod_of_pos a hb
  have hm : B64 (a.tmod b) := ⟨by have := hb2.2; omega, by have := hb2.2; omega⟩
  rw [if_pos hne, lt_def, if_pos hne, i64_div ha hb2, i64_mul, i64_sub, hr, show (0 : Int64) = i64 0 from rfl, show (1 : Int64) = i64 1 from rfl]
  have hd := dw_eq (a := a) hb
  by_cases h0 : 0 ≤ a.tmod b
  · rw [if_pos ((lz_ge hm ⟨by decide, by decide⟩).mpr h0)]
    rw [if_pos h0] at hd
    rw [hd]
  · rw [if_neg (fun q => h0 ((lz_ge hm ⟨by decide, by decide⟩).mp q))]
    rw [if_neg h0] at hd
    rw [hd, i64_sub]
/-- numbers far from the machine's ends -/
def Q (z : Int) : Prop := -4611686018427387904 ≤ z ∧ z ≤ 4611686018427387904
theorem Q.b {z : Int} (h : Q z) : B64 z := ⟨by have := h.1; omega, by have := h.2; omega⟩
theorem Q_div {a b : Int} (ha : Q a) (hb : 0 < b) : Q (a / b) := by
  constructor
  · apply Int.le_ediv_of_mul_le hb
    have : (-4611686018427387904 : Int) * b ≤ -4611686018427387904 := by omega
    have := ha.1; omega
  · apply Int.ediv_le_of_le_mul hb
    have := ha.2; omega
theorem Q_mod {a b : Int} (hb : 0 < b) (hb2 : Q b) : Q (a % b) := by
  have h3 := Int.emod_nonneg a (by omega : b ≠ 0)
  have h4 := Int.emod_lt_of_pos a hb
  exact ⟨by omega, by have := hb2.2; omega⟩
theorem mod_e (a b : Int) : a - a / b * b = a % b := by
  have h2 := Int.emod_add_mul_ediv a b
  rw [Int.mul_comm] at h2
  omega
theorem lie_ne {a b c d : Int} (hb : 0 < b) (hd : 0 < d) (h : a / b < c / d) : a * d < c * b := by
  have e1 := Int.emod_add_mul_ediv a b
  have e2 := Int.emod_add_mul_ediv c d
  have r1 := Int.emod_lt_of_pos a hb
  have r2 := Int.emod_nonneg c (by omega : d ≠ 0)
  generalize a / b = p at *
  generalize a % b = r at *
  generalize c / d = q at *
  generalize c % d = s at *
  subst e1 e2
  have h1 : r * d < b * d := Int.mul_lt_mul_of_pos_right r1 hd
  have h2 : 0 ≤ s * b := Int.mul_nonneg r2 (by omega)
  have h3 : (p + 1) * (b * d) ≤ q * (b * d) := Int.mul_le_mul_of_nonneg_right (by omega) (Int.mul_nonneg (by omega) (by omega))
  have e3 : (r + b * p) * d = r * d + p * (b * d) := by rw [Int.add_mul]; congr 1; rw [Int.mul_comm b p, Int.mul_assoc]
  have e4 : (s + d * q) * b = s * b + q * (b * d) := by rw [Int.add_mul]; congr 1; rw [Int.mul_comm d q, Int.mul_assoc, Int.mul_comm d b]
  rw [e3, e4]
  rw [Int.add_mul, Int.one_mul] at h3
  omega
theorem lie_eq {a b c d : Int} (h : a / b = c / d) : a * d - c * b = (a % b) * d - (c % d) * b := by
  have e1 := Int.emod_add_mul_ediv a b
  have e2 := Int.emod_add_mul_ediv c d
  rw [h] at e1
  generalize a / b = p at *
  generalize a % b = r at *
  generalize c / d = q at *
  generalize c % d = s at *
  subst e1 e2
  have e3 : (r + b * q) * d = r * d + q * (b * d) := by rw [Int.add_mul]; congr 1; rw [Int.mul_comm b q, Int.mul_assoc]
  have e4 : (s + d * q) * b = s * b + q * (b * d) := by rw [Int.add_mul]; congr 1; rw [Int.mul_comm d q, Int.mul_assoc, Int.mul_comm d b]
  rw [e3, e4]; omega
theorem m_lie94 {way r s : Int} (hr : 0 ≤ r) (hs : 0 ≤ s) (hr2 : Q r) (hs2 : Q s) {b d : Int} (hb : 0 < b) (hd : 0 < d) (hz : r = 0 ∨ s = 0) (h : xH) : fX7_lie_b94 (i32 way) (i64 r) (i64 s) h = some (i32 (way * sg (r * d - s * b)), h) := by
  unfold fX7_lie_b94
  rw [show (0 : Int64) = i64 0 from rfl]
  by_cases h1 : r = s
  · rw [if_pos ((lz_eq hr2.b hs2.b).mpr h1)]
    have : r = 0 ∧ s = 0 := by omega
    rw [this.1, this.2]
    simp [sg]; rfl
  · rw [if_neg (fun q => h1 ((lz_eq hr2.b hs2.b).mp q))]
    by_cases h2 : r = 0
    · rw [if_pos ((lz_eq hr2.b ⟨by decide, by decide⟩).mpr h2), i32_neg, h2]
      have : 0 < s * b := Int.mul_pos (by omega) hb
      rw [show sg (0 * d - s * b) = -1 by unfold sg; rw [if_pos (by omega)]]
      congr 3; omega
    · rw [if_neg (fun q => h2 ((lz_eq hr2.b ⟨by decide, by decide⟩).mp q))]
      have hs0 : s = 0 := by omega
      have : 0 < r * d := Int.mul_pos (by omega) hd
      rw [hs0, show sg (r * d - 0 * b) = 1 by unfold sg; rw [if_neg (by omega), if_neg (by omega)]]
      congr 3; omega
theorem m_lie_b {r17 : Int64 → Int64 → Int64 → Int64 → Int32 → xH → Option (Int32 × xH)} {a b c d way : Int} (h : xH) (ha : Q a) (hb : 0 < b) (hb2 : Q b) (hc : Q c) (hd : 0 < d) (hd2 : Q d)
    (hrec : ¬ a % b = 0 → ¬ c % d = 0 → r17 (i64 b) (i64 (a % b)) (i64 d) (i64 (c % d)) (i32 (-way)) h = some (i32 (-way * sg (b * (c % d) - d * (a % b))), h)) : fX7_lie_b17 r17 (i64 a) (i64 b) (i64 c) (i64 d) (i32 way) h = some (i32 (way * sg (a * d - c * b)), h) := by
  unfold fX7_lie_b17
  have z0 : B64 0 := ⟨by decide, by decide⟩
  have qp := (Q_div ha hb).b
  have qq := (Q_div hc hd).b
  have qr := Q_mod (a := a) hb hb2
  have qs := Q_mod (a := c) hd hd2
  have r0 := Int.emod_nonneg a (by omega : b ≠ 0)
  have s0 := Int.emod_nonneg c (by omega : d ≠ 0)
  rw [m_down ha.b hb hb2.b, bd_some, m_down hc.b hd hd2.b, bd_some]
  by_cases he : a / b = c / d
  · rw [if_pos ((lz_eq qp qq).mpr he), lt_def, lt_def, i64_mul, i64_sub, i64_mul, i64_sub, mod_e, mod_e, lie_eq he, show (0 : Int64) = i64 0 from rfl]
    by_cases h1 : a % b = 0
    · rw [if_pos ((lz_eq qr.b z0).mpr h1)]
      exact m_lie94 r0 s0 qr qs hb hd (Or.inl h1) h
    · rw [if_neg (fun q => h1 ((lz_eq qr.b z0).mp q))]
      by_cases h2 : c % d = 0
      · rw [if_pos ((lz_eq qs.b z0).mpr h2)]
        exact m_lie94 r0 s0 qr qs hb hd (Or.inr h2) h
      · rw [if_neg (fun q => h2 ((lz_eq qs.b z0).mp q)), lt_def, i32_neg, hrec h1 h2]
        have e : a % b * d - c % d * b = -(b * (c % d) - d * (a % b)) := by rw [Int.mul_comm b, Int.mul_comm d]; omega
        rw [e, sg_neg]
        congr 3
        rw [Int.neg_mul, Int.mul_neg]
  · rw [if_neg (fun q => he ((lz_eq qp qq).mp q))]
    by_cases hl : a / b < c / d
    · rw [if_neg (fun q => by have := (lz_ge qp qq).mp q; omega), i32_neg]
      have := lie_ne hb hd hl
      rw [show sg (a * d - c * b) = -1 by unfold sg; rw [if_pos (by omega)]]
      congr 3; omega
    · rw [if_pos ((lz_ge qp qq).mpr (by omega))]
      have := lie_ne hd hb (show c / d < a / b by omega)
      rw [show sg (a * d - c * b) = 1 by unfold sg; rw [if_neg (by omega), if_neg (by omega)]]
      congr 3; omega
theorem half_step {b r k : Int} (hr : 0 < r) (hrb : r < b) (h : r * b < 2 * k) : (b % r) * r < k := by
  have e := Int.emod_add_mul_ediv b r
  have t0 := Int.emod_nonneg b (by omega : r ≠ 0)
  have t1 := Int.emod_lt_of_pos b hr
  have hq : 1 ≤ b / r := Int.le_ediv_of_mul_le hr (by omega)
  generalize b / r = q at *
  generalize b % r = t at *
  have h1 : r * 1 ≤ r * q := Int.mul_le_mul_of_nonneg_left hq (by omega)
  have h2 : 2 * t < b := by omega
  have h3 : (2 * t) * r < b * r := Int.mul_lt_mul_of_pos_right h2 hr
  rw [Int.mul_comm b r, Int.mul_assoc] at h3
  omega
theorem m_lie_l : ∀ (k n : Nat) (a b c d way : Int) (h : xH), Q a → 0 < b → Q b → Q c → 0 < d → Q d → (a % b) * b < 2 ^ k → k < n → fX7_lie_l17 n (i64 a) (i64 b) (i64 c) (i64 d) (i32 way) h = some (i32 (way * sg (a * d - c * b)), h) := by
  intro k
  induction k with
  | zero =>
    intro n a b c d way h ha hb hb2 hc hd hd2 hk hn
    obtain ⟨m, rfl⟩ : ∃ m, n = m + 1 := ⟨n - 1, by omega⟩
    refine m_lie_b h ha hb hb2 hc hd hd2 (fun h1 _ => ?_)
    have r0 := Int.emod_nonneg a (by omega : b ≠ 0)
    have : 1 * 1 ≤ a % b * b := Int.mul_le_mul (by omega) (by omega) (by decide) r0
    simp at hk; omega
  | succ k ih =>
    intro n a b c d way h ha hb hb2 hc hd hd2 hk hn
    obtain ⟨m, rfl⟩ : ∃ m, n = m + 1 := ⟨n - 1, by omega⟩
    refine m_lie_b h ha hb hb2 hc hd hd2 (fun h1 h2 => ?_)
    have r0 := Int.emod_nonneg a (by omega : b ≠ 0)
    have s0 := Int.emod_nonneg c (by omega : d ≠ 0)
    have r1 := Int.emod_lt_of_pos a hb
    refine ih m b (a % b) d (c % d) (-way) h hb2 (by omega) (Q_mod hb hb2) hd2 (by omega) (Q_mod hd hd2) (half_step (by omega) r1 ?_) (by omega)
    rw [Int.pow_succ] at hk
    omega
theorem FU_eq : FU = 100000 := rfl
theorem m_lie {a b c d : Int} (h : xH) (ha : Q a) (hb : 0 < b) (hb2 : Q b) (hc : Q c) (hd : 0 < d) (hd2 : Q d) : fX7_lie (i64 a) (i64 b) (i64 c) (i64 d) h = some (i32 (sg (a * d - c * b)), h) := by
  unfold fX7_lie
  rw [lt_def, show (1 : Int32) = i32 1 from rfl, m_lie_l 130 FU a b c d 1 h ha hb hb2 hc hd hd2 ?_ (by rw [FU_eq]; decide), Int.one_mul]
  have r0 := Int.emod_nonneg a (by omega : b ≠ 0)
  have r1 := Int.emod_lt_of_pos a hb
  have h1 : a % b * b ≤ 4611686018427387904 * 4611686018427387904 := Int.mul_le_mul (by have := hb2.2; omega) hb2.2 (by omega) (by decide)
  have h2 : (4611686018427387904 * 4611686018427387904 : Int) < 2 ^ 130 := by decide
  omega
