/-! BOTH SIDES ASKED: knot, paper, area -/
section AS
variable {h : xH} {cur : Nat → List Kn} {ks : List Kn}
theorem Q_knot (C : CurOk cur) (a b c : Int32) : Ag cur (fX6_knot 2 a b c) (fX7_knot_ 220 a b c) := by
  obtain ⟨i, bi, rfl⟩ := i32_ex a
  obtain ⟨k, bk, rfl⟩ := i32_ex b
  obtain ⟨w, bw, rfl⟩ := i32_ex c
  intro h h' I J
  have Bk : B64 k := ⟨by have := bk.1; omega, by have := bk.2; omega⟩
  have Bw : B64 w := ⟨by have := bw.1; omega, by have := bw.2; omega⟩
  unfold fX6_knot fX7_knot_
  simp only [if_pos J.1.k220, lt_def, c_isStore bi, m_isStore bi, bd_some, bzd]
  by_cases h1 : 0 ≤ i ∧ i ≤ 5
  · simp only [if_pos h1]
    obtain ⟨n, rfl⟩ : ∃ n : Nat, i = n := ⟨i.toNat, by omega⟩
    have hn : n < 6 := by omega
    obtain ⟨⟨h12, P, F⟩, -⟩ := C.1 n hn
    obtain ⟨cap, W⟩ := I.2 n (by omega)
    have co := I.1
    have sl := I.s (show n < 7 by omega)
    have f0 := thr0 h'
    have q := f0.mo J.1
    have R := (J.2.1 n hn).fr f0 MSc_222
    have e0 : (i32 w = (0 : Int32)) ↔ w = 0 := i32_eq bw (b := 0) ⟨by decide, by decide⟩
    have e1 : (i32 w = (1 : Int32)) ↔ w = 1 := i32_eq bw (b := 1) ⟨by decide, by decide⟩
    have e2 : (i32 w = (2 : Int32)) ↔ w = 2 := i32_eq bw (b := 2) ⟨by decide, by decide⟩
    have l1 : (i32 k < (0 : Int32)) ↔ k < 0 := i32_lt bk (b := 0) ⟨by decide, by decide⟩
    have l2 : (i32 k < i32 ((cur n).length : Int)) ↔ k < (cur n).length := i32_lt bk ⟨by omega, by omega⟩
    simp only [if_pos co.k2, co.r2_0, if_pos co.k3, if_pos sl.1, sl.2, if_pos W.1.1, W.2.1.1, e0, e1, e2, l1, l2, m_many q hn R, bd_some, i64_of32 bk, i64_of32 bw, i64_of32 (show B32 ((cur n).length : Int) from ⟨by omega, by omega⟩), z64, o64, i64_sub, m_in (b := 0) (c := ((cur n).length : Int) - 1) Bk ⟨by decide, by decide⟩ ⟨by omega, by omega⟩, show (2 : Int64) = i64 2 from rfl, m_in (b := 0) (c := 2) Bw ⟨by decide, by decide⟩ ⟨by decide, by decide⟩, bzd]
    by_cases c1 : 0 ≤ k ∧ k ≤ ((cur n).length : Int) - 1
    · rw [if_neg (by omega), if_pos (show k < ((cur n).length : Int) by omega), if_pos c1]
      obtain ⟨m, rfl⟩ : ∃ m : Nat, k = m := ⟨k.toNat, by omega⟩
      have hm : m < (cur n).length := by omega
      have v := R.2 m hm
      by_cases c2 : 0 ≤ w ∧ w ≤ 2
      · rw [if_pos c2]
        have x0 : ix (i32 (37 * (n : Int) + 1 + 3 * (m : Int) + w)) 222 := ix_i (by omega) (by omega) (by decide)
        simp only [s37, one32, thr32, i32_mul, i32_add, q.r3, q.k222, q.l222, if_pos x0, reduceIte]
        rcases (show w = 0 ∨ w = 1 ∨ w = 2 by omega) with e | e | e
        · have n0 : (i32 (37 * (n : Int) + 1 + 3 * (m : Int) + w)).toNatClampNeg = 37 * n + 1 + 3 * m := by rw [i32_nat (by omega) (by omega)]; omega
          rw [if_pos e, c_xAt W hm, bd_some, n0, v.1]
          exact ⟨_, h, _, rfl, Fr.rf h, rfl, f0⟩
        · have n0 : (i32 (37 * (n : Int) + 1 + 3 * (m : Int) + w)).toNatClampNeg = 37 * n + 2 + 3 * m := by rw [i32_nat (by omega) (by omega)]; omega
          rw [if_neg (by omega), if_pos e, c_yAt W hm, bd_some, n0, v.2.1]
          exact ⟨_, h, _, rfl, Fr.rf h, rfl, f0⟩
        · have n0 : (i32 (37 * (n : Int) + 1 + 3 * (m : Int) + w)).toNatClampNeg = 37 * n + 3 + 3 * m := by rw [i32_nat (by omega) (by omega)]; omega
          rw [if_neg (by omega), if_neg (by omega), if_pos e, if_pos W.c5, if_pos (W.x hm).2.2, (W.v hm).2.2, n0, v.2.2]
          exact ⟨_, h, _, rfl, Fr.rf h, rfl, f0⟩
      · rw [if_neg c2, if_neg (by omega), if_neg (by omega), if_neg (by omega)]
        exact ⟨_, h, _, rfl, Fr.rf h, rfl, f0⟩
    · rw [if_neg c1]
      by_cases c2 : k < 0
      · rw [if_pos c2]; exact ⟨_, h, _, rfl, Fr.rf h, rfl, f0⟩
      · rw [if_neg c2, if_neg (show ¬ k < ((cur n).length : Int) by omega)]; exact ⟨_, h, _, rfl, Fr.rf h, rfl, f0⟩
  · simp only [if_neg h1]
    exact ⟨_, h, _, rfl, Fr.rf h, rfl, thr0 h'⟩
/-! paper -/
theorem rat_self (x : Rat) : (x.num : Rat) / ((x.den : Int) : Rat) = x := by rw [← Rat.divInt_eq_div]; exact Rat.num_divInt_den x
theorem g60 {n : Int} {d : Nat} (hd : d ≠ 0) : ((n.tdiv (Int.gcd n 60 : Int) : Int) : Rat) / ((((d : Int) * (60 : Int).tdiv (Int.gcd n 60 : Int) : Int)) : Rat) = (n : Rat) / ((d : Int) : Rat) / 60 := by
  obtain ⟨u, hu⟩ : (Int.gcd n 60 : Int) ∣ n := Int.gcd_dvd_left n 60
  obtain ⟨v, hv⟩ : (Int.gcd n 60 : Int) ∣ 60 := Int.gcd_dvd_right n 60
  have g0 : 0 < Int.gcd n 60 := Int.gcd_pos_of_ne_zero_right n (by decide)
  generalize (Int.gcd n 60 : Nat) = g at *
  have e1 : n.tdiv (g : Int) = u := by rw [hu]; exact Int.mul_tdiv_cancel_left u (by omega)
  have e2 : (60 : Int).tdiv (g : Int) = v := by
    have : (60 : Int).tdiv (g : Int) = ((g : Int) * v).tdiv (g : Int) := by rw [← hv]
    rw [this]; exact Int.mul_tdiv_cancel_left v (by omega)
  rw [e1, e2]
  have c1 : (n : Rat) = ((g : Int) : Rat) * (u : Rat) := by rw [← Rat.intCast_mul, ← hu]
  have c2 : (60 : Rat) = ((g : Int) : Rat) * (v : Rat) := by rw [← Rat.intCast_mul, ← hv]; rfl
  have gn : ((g : Int) : Rat) ≠ 0 := by
    intro z
    have : (g : Int) = 0 := by exact_mod_cast z
    omega
  have vn : (v : Rat) ≠ 0 := by
    intro z; rw [z] at c2; grind
  have dn : ((d : Int) : Rat) ≠ 0 := by
    intro z
    have : (d : Int) = 0 := by exact_mod_cast z
    omega
  rw [Rat.intCast_mul, c1, c2]
  grind
theorem Q_paper (C : CurOk cur) (a b : Int32) : Ag cur (fX6_paper 2 a b) (fX7_paper 220 a b) := by
  obtain ⟨k, bk, rfl⟩ := i32_ex a
  obtain ⟨w, bw, rfl⟩ := i32_ex b
  intro h h' I J
  have Bk : B64 k := ⟨by have := bk.1; omega, by have := bk.2; omega⟩
  have Bw : B64 w := ⟨by have := bw.1; omega, by have := bw.2; omega⟩
  obtain ⟨cap, W⟩ := I.2 6 (by decide)
  have co := I.1
  have sl := I.s (show 6 < 7 by decide)
  have f0 := thr0 h'
  have JJ := J.fr f0
  have q := JJ.1
  have pb := C.2.1
  have hl := pb.1
  have e0 : (i32 w = (0 : Int32)) ↔ w = 0 := i32_eq bw (b := 0) ⟨by decide, by decide⟩
  have e1 : (i32 w = (1 : Int32)) ↔ w = 1 := i32_eq bw (b := 1) ⟨by decide, by decide⟩
  have e2 : (i32 w = (2 : Int32)) ↔ w = 2 := i32_eq bw (b := 2) ⟨by decide, by decide⟩
  have e3 : (i32 w = (3 : Int32)) ↔ w = 3 := i32_eq bw (b := 3) ⟨by decide, by decide⟩
  have e4 : (i32 w = (4 : Int32)) ↔ w = 4 := i32_eq bw (b := 4) ⟨by decide, by decide⟩
  have l1 : (i32 k < (0 : Int32)) ↔ k < 0 := i32_lt bk (b := 0) ⟨by decide, by decide⟩
  have l2 : (i32 k < i32 ((cur 6).length : Int)) ↔ k < (cur 6).length := i32_lt bk ⟨by omega, by omega⟩
  have l3 : ((2 : Int32) ≤ i32 w) ↔ 2 ≤ w := i32_le (a := 2) ⟨by decide, by decide⟩ bw
  have s6 : (6 : Int32).toNatClampNeg = 6 := by decide
  have x6 : ix (6 : Int32) (kl h 3) := sl.1
  unfold fX6_paper fX7_paper
  simp only [if_pos J.1.k220, lt_def, if_pos co.k2, co.r2_0, if_pos co.k3, if_pos x6, s6, if_pos W.1.1, W.2.1.1, e0, e1, e2, e3, e4, l1, l2, l3, JJ.2.2.2, i64_of32 bk, i64_of32 bw, i64_of32 (show B32 ((cur 6).length : Int) from ⟨by omega, by omega⟩), z64, o64, i64_sub, m_in (b := 0) (c := ((cur 6).length : Int) - 1) Bk ⟨by decide, by decide⟩ ⟨by omega, by omega⟩, show (4 : Int64) = i64 4 from rfl, m_in (b := 0) (c := 4) Bw ⟨by decide, by decide⟩ ⟨by decide, by decide⟩, bzd, bd_some]
  by_cases c1 : 0 ≤ k ∧ k ≤ ((cur 6).length : Int) - 1
  · rw [if_neg (by omega), if_pos (show k < ((cur 6).length : Int) by omega), if_pos c1]
    obtain ⟨m, rfl⟩ : ∃ m : Nat, k = m := ⟨k.toNat, by omega⟩
    have hm : m < (cur 6).length := by omega
    have hk : (cur 6)[m]? = some (cur 6)[m] := List.getElem?_eq_getElem hm
    have kb := pb.2 (cur 6)[m] (List.getElem_mem _)
    have cv := W.2.1.2 m _ hk
    have mv := JJ.2.2.1 m _ hk
    have hc := W.2.2
    generalize (cur 6)[m] = kn at *
    have nm : (i32 (m : Int)).toNatClampNeg = m := nat_i m (by omega)
    have xm : ∀ j, 1 ≤ j → j ≤ 4 → ix (i32 (m : Int)) (kl h (hR h (hR h 3 6) j)) := fun j a b => by rw [(W.1.2.1 j a b).2]; exact ix_i (by omega) (by omega) (by omega)
    have kcj : ∀ j, 1 ≤ j → j ≤ 4 → kc h (hR h (hR h 3 6) j) = 9 := fun j a b => (W.1.2.1 j a b).1
    by_cases c2 : 0 ≤ w ∧ w ≤ 4
    · rw [if_pos c2]
      by_cases c4 : w = 4
      · have xx : ix (i32 (m : Int)) 1600 := ix_i (by omega) (by omega) (by decide)
        have hcv : hI h (hR h (hR h 3 6) 5) (i32 (m : Int)).toNatClampNeg = bz kn.2.2 := by rw [nm]; exact cv.2.2.2.2
        have hmv : hI (sI h' 220 0 0) 224 (i32 (m : Int)).toNatClampNeg = bz kn.2.2 := by rw [nm]; exact mv.2.2.2.2
        rw [if_neg (by omega), if_neg (by omega), if_neg (by omega), if_neg (by omega), if_pos c4, if_pos W.c5, if_pos (by rw [W.1.2.2.1.2]; exact ix_i (by omega) (by omega) (by omega)), hcv, if_pos c4, q.r6, if_pos q.k224, q.l224, if_pos xx, hmv]
        cases kn.2.2
        · exact ⟨_, h, _, rfl, Fr.rf h, by rw [if_pos bz_f]; rfl, f0⟩
        · exact ⟨_, h, _, rfl, Fr.rf h, by rw [if_neg bzt0]; rfl, f0⟩
      · -- a number
        have clsx : ∀ (u : Nat) (x : Rat), (u = 1 ∨ u = 3) → hJ h (hR h (hR h 3 6) u) m = i64 x.num → hJ h (hR h (hR h 3 6) (u + 1)) m = i64 x.den → (-4611686018427387904 ≤ x.num ∧ x.num ≤ 4611686018427387904) → (x.den : Int) ≤ 70000000000000000 → ∀ w' : Int, B32 w' → ∃ g2, (if kc h 2 = 6 then if kc h (hR h 3 6) = 4 then if kc h (hR h (hR h 3 6) u) = 9 then if ix (i32 (m : Int)) (kl h (hR h (hR h 3 6) u)) then if kc h (hR h (hR h 3 6) (u + 1)) = 9 then if ix (i32 (m : Int)) (kl h (hR h (hR h 3 6) (u + 1))) then if kc h (hR h 2 11) = 2 then bd (fX2_assign (hR h 2 11) (hJ h (hR h (hR h 3 6) u) (i32 (m : Int)).toNatClampNeg) (hJ h (hR h (hR h 3 6) (u + 1)) (i32 (m : Int)).toNatClampNeg) h) (fun _ g8 => bd (fX6_tellNumber (hR g8 2 11) (i32 w') g8) (fun w13 g11 => some (w13, g11))) else none else none else none else none else none else none else none) = some (i64 (tel (some (x / 60)) w'), g2) ∧ Fr CSc h g2 := by
          intro u x hu v1 v2 b1 b2 w' bw'
          have dn := x.den_nz
          obtain ⟨g1, E1, R1, F1⟩ := c_assign (h := h) (r := 88) (n := x.num) (d := x.den) ⟨by omega, by omega⟩ ⟨by omega, by omega⟩ (by omega) co.k88
          rw [rat_self] at R1
          obtain ⟨g2, E2, F2⟩ := c_tellNumber R1 (by rw [F1.ekc]; exact co.k88) (fun y e => by rw [← Option.some.inj e]; exact ⟨⟨by omega, by omega⟩, ⟨by omega, by omega⟩⟩) bw'
          refine ⟨g2, ?_, (F1.mono (fun _ _ z => AR_cs (by decide) (by decide) z)).tr (F2.mono (fun _ _ z => AR_cs (by decide) (by decide) z))⟩
          rw [if_pos co.k2, if_pos W.1.1, if_pos (kcj u (by omega) (by omega)), if_pos (xm u (by omega) (by omega)), if_pos (kcj (u + 1) (by omega) (by omega)), if_pos (xm (u + 1) (by omega) (by omega)), co.r2_11, if_pos co.k88, nm, v1, v2, E1, bd_some, F1.ehR, co.r2_11, E2, bd_some]
          rfl
        have refx : ∀ (u : Nat) (x : Rat), (u = 0 ∨ u = 2) → hJ (sI h' 220 0 0) 223 (4 * m + u) = i64 x.num → hJ (sI h' 220 0 0) 223 (4 * m + u + 1) = i64 x.den → (-4611686018427387904 ≤ x.num ∧ x.num ≤ 4611686018427387904) → (x.den : Int) ≤ 70000000000000000 → w ≤ 3 → fX7_paper_b70 (i32 (u : Int)) ((4 : Int32) * i32 (m : Int)) 220 (i32 w) (sI h' 220 0 0) = some (i64 (prt (x / 60) w), sI h' 220 0 0) := by
          intro u x hu v1 v2 b1 b2 hw3
          have dn := x.den_nz
          have x0 : ix (i32 (4 * (m : Int) + (u : Int))) 6400 := ix_i (by omega) (by omega) (by decide)
          have x1 : ix (i32 (4 * (m : Int) + (u : Int) + 1)) 6400 := ix_i (by omega) (by omega) (by decide)
          have n0 : (i32 (4 * (m : Int) + (u : Int))).toNatClampNeg = 4 * m + u := by rw [i32_nat (by omega) (by omega)]; omega
          have n1 : (i32 (4 * (m : Int) + (u : Int) + 1)).toNatClampNeg = 4 * m + u + 1 := by rw [i32_nat (by omega) (by omega)]; omega
          have g0 : 0 < Int.gcd x.num 60 := Int.gcd_pos_of_ne_zero_right _ (by decide)
          have g1 : Int.gcd x.num 60 ≤ 60 := Nat.le_of_dvd (by decide) (Int.gcd_dvd_natAbs_right x.num 60)
          have gb : B64 (Int.gcd x.num 60 : Int) := ⟨by omega, by omega⟩
          have c5 : ¬ i64 (Int.gcd x.num 60 : Int) = i64 0 := fun z => by have := (i64_eq gb ⟨by decide, by decide⟩).mp z; omega
          have t1 := tdiv_b (a := x.num) (M := 4611686018427387904) (Int.gcd x.num 60) b1
          have t2 := tdiv_b (a := 60) (M := 60) (Int.gcd x.num 60) ⟨by decide, by decide⟩
          have t3 : 0 < (60 : Int).tdiv (Int.gcd x.num 60 : Int) := by
            obtain ⟨v, hv⟩ : (Int.gcd x.num 60 : Int) ∣ 60 := Int.gcd_dvd_right x.num 60
            have : (60 : Int).tdiv (Int.gcd x.num 60 : Int) = ((Int.gcd x.num 60 : Int) * v).tdiv (Int.gcd x.num 60 : Int) := by rw [← hv]
            rw [this, Int.mul_tdiv_cancel_left v (by omega)]
            apply Classical.byContradiction
            intro z
            have h1 : (Int.gcd x.num 60 : Int) * v ≤ 0 := Int.mul_nonpos_of_nonneg_of_nonpos (by omega) (by omega)
            omega
          have t4 : 0 < (x.den : Int) * (60 : Int).tdiv (Int.gcd x.num 60 : Int) := Int.mul_pos (by omega) t3
          have t5 : (x.den : Int) * (60 : Int).tdiv (Int.gcd x.num 60 : Int) ≤ (x.den : Int) * 60 := Int.mul_le_mul_of_nonneg_left (by omega) (by omega)
          unfold fX7_paper_b70
          simp only [fou32, i32_mul, i32_add, lt_def, q.k220, q.r5, q.k223, q.l223, if_pos x0, n0, v1, show (60 : Int64) = i64 60 from rfl, m_common (a := x.num) (b := 60) ⟨b1.1, b1.2⟩ ⟨by decide, by decide⟩, bd_some, z64, if_pos c5, one32, if_pos x1, n1, v2, i64_div (a := x.num) (b := Int.gcd x.num 60) ⟨by omega, by omega⟩ gb, i64_div (a := 60) (b := Int.gcd x.num 60) ⟨by decide, by decide⟩ gb, i64_mul, reduceIte]
          rw [m_part (n := x.num.tdiv (Int.gcd x.num 60)) (d := (x.den : Int) * (60 : Int).tdiv (Int.gcd x.num 60)) ⟨by omega, by omega⟩ ⟨by omega, by omega⟩ t4 ⟨by omega, by omega⟩, bd_some, g60 dn, rat_self]
        rw [if_neg c4, if_neg c4]
        by_cases c5 : w < 2
        · obtain ⟨g2, E2, F2⟩ := clsx 1 kn.1 (Or.inl rfl) cv.1 cv.2.1 kb.1 kb.2.1 w bw
          have E3 := refx 0 kn.1 (Or.inl rfl) mv.1 mv.2.1 kb.1 kb.2.1 (by omega)
          have ec : (if w = 0 then fX6_paper_b60 2 (i32 (m : Int)) (i32 w) (hR h 3 6) h else if w = 1 then fX6_paper_b60 2 (i32 (m : Int)) (i32 w) (hR h 3 6) h else if w = 2 then fX6_paper_b88 2 (i32 (m : Int)) (i32 w) (hR h 3 6) h else if w = 3 then fX6_paper_b88 2 (i32 (m : Int)) (i32 w) (hR h 3 6) h else some (-9223372036854775808, h)) = fX6_paper_b60 2 (i32 (m : Int)) (i32 w) (hR h 3 6) h := by
            rcases (show w = 0 ∨ w = 1 by omega) with e | e <;> simp [e]
          rw [ec, if_neg (show ¬ 2 ≤ w by omega)]
          refine ⟨_, g2, _, E2, F2, ?_, f0⟩
          show fX7_paper_b70 (i32 ((0 : Nat) : Int)) _ _ _ _ = _
          rw [E3, prt_tel (by omega), if_pos c5]
        · obtain ⟨g2, E2, F2⟩ := clsx 3 kn.2.1 (Or.inr rfl) cv.2.2.1 cv.2.2.2.1 kb.2.2.1 kb.2.2.2 (w - 2) ⟨by omega, by omega⟩
          have E3 := refx 2 kn.2.1 (Or.inr rfl) mv.2.2.1 mv.2.2.2.1 kb.2.2.1 kb.2.2.2 (by omega)
          rw [if_neg (by omega), if_neg (by omega)]
          have ec : (if w = 2 then fX6_paper_b88 2 (i32 (m : Int)) (i32 w) (hR h 3 6) h else if w = 3 then fX6_paper_b88 2 (i32 (m : Int)) (i32 w) (hR h 3 6) h else some (-9223372036854775808, h)) = fX6_paper_b88 2 (i32 (m : Int)) (i32 w) (hR h 3 6) h := by
            rcases (show w = 2 ∨ w = 3 by omega) with e | e <;> simp [e]
          rw [ec, if_pos (show 2 ≤ w by omega)]
          refine ⟨i64 (tel (some (kn.2.1 / 60)) (w - 2)), g2, _, ?_, F2, ?_, f0⟩
          · unfold fX6_paper_b88
            rw [two32, i32_sub]
            exact E2
          · show fX7_paper_b70 (i32 ((2 : Nat) : Int)) _ _ _ _ = _
            rw [E3, prt_tel (by omega), if_neg c5]
    · rw [if_neg c2, if_neg (by omega), if_neg (by omega), if_neg (by omega), if_neg (by omega), if_neg (by omega)]
      exact ⟨_, h, _, rfl, Fr.rf h, rfl, f0⟩
  · rw [if_neg c1]
    by_cases c2 : k < 0
    · rw [if_pos c2]; exact ⟨_, h, _, rfl, Fr.rf h, rfl, f0⟩
    · rw [if_neg c2, if_neg (show ¬ k < ((cur 6).length : Int) by omega)]; exact ⟨_, h, _, rfl, Fr.rf h, rfl, f0⟩
end AS
