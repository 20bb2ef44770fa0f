/-! bits -/
theorem s60_eq {x : Rat} : ((x.num : Rat) / (((x.den : Int) * 60 : Int) : Rat)) = x / 60 := by
  rw [Rat.intCast_mul]
  have hx : x = (x.num : Rat) / ((x.den : Int) : Rat) := by rw [← Rat.divInt_eq_div]; exact (Rat.num_divInt_den x).symm
  have hd : ((x.den : Int) : Rat) ≠ 0 := by
    intro z
    have : (x.den : Int) = 0 := by exact_mod_cast z
    have := x.den_nz
    omega
  have h60 : ((60 : Int) : Rat) = 60 := rfl
  rw [h60]
  generalize hdd : ((x.den : Int) : Rat) = dd at *
  generalize hnn : (x.num : Rat) = nn at *
  rw [hx]
  grind
section BT
variable {cur : Nat → List Kn}
theorem Q_bits (C : CurOk cur) (a b : Int32) : Ag cur (fX6_bits 2 a b) (fX7_bits 220 a b) := by
  obtain ⟨i, bi, rfl⟩ := i32_ex a
  obtain ⟨x, bx, rfl⟩ := i32_ex b
  intro h h' I J
  have Bx : B64 x := ⟨by have := bx.1; omega, by have := bx.2; omega⟩
  unfold fX6_bits fX7_bits
  simp only [if_pos J.1.k220, lt_def, c_isStore bi, m_isStore bi, bd_some, bzd, i64_of32 bx, c_isPlace Bx, m_isPlace Bx]
  by_cases h1 : 0 ≤ i ∧ i ≤ 5
  · by_cases h2 : -5940 ≤ x ∧ x ≤ 5940
    · simp only [if_pos h1, if_pos h2]
      obtain ⟨n, rfl⟩ : ∃ n : Nat, i = n := ⟨i.toNat, by omega⟩
      have hn : n < 6 := by omega
      obtain ⟨O, -⟩ := C.1 n hn
      obtain ⟨cap, W⟩ := I.2 n (by omega)
      have co := I.1
      have sl := I.s (show n < 7 by omega)
      obtain ⟨g1, v1, E1, R1, V1, B1, F1⟩ := c_valueAt W O.2.1 O.2.2 co.k88 (x := x) (by omega)
      have f0 := thr0 h'
      obtain ⟨g3, v3, E3, V3, N3, F3⟩ := m_hasValue (f0.mo J.1) hn O ((J.2.1 n hn).fr f0 MSc_222) (x := x) (by omega)
      have F3 := F3.mono (B := MSc) (fun _ _ z => MSv_ms z)
      have ev := IsV_one V1 V3
      subst ev
      have fr1 : Fr CSc h g1 := F1.mono (fun _ _ z => AR_cs (by decide) (by decide) z)
      have k1 : kc g1 88 = 2 := by rw [F1.ekc]; exact co.k88
      have r1 : hR g1 2 11 = 88 := by rw [F1.ehR, co.r2_11]
      rw [if_pos co.k2, co.r2_0, if_pos co.k3, if_pos sl.1, sl.2, if_pos W.1.1, co.r2_11, E1, bd_some, r1, if_pos k1, R1.1, E3, bd_some]
      cases v1 with
      | none =>
        exact ⟨0, g1, g3, by rw [if_pos (by rfl)], fr1, by rw [if_pos (by rfl)], f0.tr F3⟩
      | some y =>
        obtain ⟨nn, d, e1, e2, b1, d0, d1, ey⟩ := N3 y rfl
        obtain ⟨q1, q2⟩ := B1.q y rfl
        have dp := y.den_pos
        obtain ⟨g2, E2, R2, F2⟩ := c_assign (h := g1) (r := 88) q1 q2 (by omega) k1
        have fr2 : Fr CSc h g2 := fr1.tr (F2.mono (fun _ _ z => AR_cs (by decide) (by decide) z))
        have hv := R2.2 _ rfl
        rw [s60_eq] at hv
        have rb := rat_b (n := y.num) (d := (y.den : Int) * 60) (M := 1000000000) (by omega) (B1 y rfl).1
        rw [s60_eq] at rb
        have bd1 := (B1 y rfl).2
        have dp2 := (y / 60).den_pos
        obtain ⟨a, G, Ea, Eb⟩ := bits_both (n := (y / 60).num) (d := ((y / 60).den : Int)) ⟨by omega, by omega⟩ ⟨by omega, by omega⟩ (by omega) g2 g3
        refine ⟨a, g2, g3, ?_, fr2, ?_, f0.tr F3⟩
        · rw [if_neg (show ¬ bz (some y).isSome = 0 from bzt0), (R1.2 y rfl).1, (R1.2 y rfl).2, show (60 : Int64) = i64 60 from rfl, i64_mul, E2, bd_some, F2.ehR, r1, F2.ekc, if_pos k1, hv.1, hv.2, if_pos G, Ea, bd_some]
        · rw [if_neg (show ¬ bz (some y).isSome = 0 from bzt0), e1, e2, show (60 : Int64) = i64 60 from rfl, i64_mul, show (0 : Int32) = i32 0 from rfl, m_part (n := nn) (d := 60 * d) ⟨by omega, by omega⟩ ⟨by omega, by omega⟩ (by omega) (by omega) g3, bd_some, e1, e2, i64_mul, show (1 : Int32) = i32 1 from rfl, m_part (n := nn) (d := 60 * d) ⟨by omega, by omega⟩ ⟨by omega, by omega⟩ (by omega) (by omega) g3, bd_some, q60 d0, ← ey]
          rw [show prt (y / 60) 0 = (y / 60).num from rfl, show prt (y / 60) 1 = ((y / 60).den : Int) from rfl, if_pos G, Eb, bd_some]
    · simp only [if_pos h1, if_neg h2]
      exact ⟨_, h, _, rfl, Fr.rf h, rfl, thr0 h'⟩
  · simp only [if_neg h1]
    exact ⟨_, h, _, rfl, Fr.rf h, rfl, thr0 h'⟩
end BT
theorem Cal_bits (a b : Int32) : Cal (fX6_bits 2 a b) (fX7_bits 220 a b) := Cal_of (fun _ C => Q_bits C a b)
