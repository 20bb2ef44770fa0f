/-! CALLS: dot, clear -/
section DO
variable {h : xH} {S : Ast}
theorem kn_dot (x y : Int) : kx [((x : Rat), (y : Rat), false)] 0 = x ∧ ky [((x : Rat), (y : Rat), false)] 0 = y ∧ kg [((x : Rat), (y : Rat), false)] 0 = false := ⟨rfl, rfl, rfl⟩
/-- a refused call, when both come to refuse -/
theorem ref_cal {f g : xH → Option (Int32 × xH)} {a : Int} (K : AOk S) (C : CSt h S) (M : MSt h S) (ha : -6 ≤ a ∧ a ≤ -1) (hf : f h = bd (fX6_refuse 2 (i32 a) h) (fun w4 g2 => some (w4, g2))) (hg : ∀ h1, Mo h1 → g h1 = bd (fX7_refuse 220 (i32 a) (sI h1 220 0 0)) (fun w4 g2 => some (w4, g2))) : ∃ r h1 h2 S', f h = some (r, h1) ∧ g h1 = some (r, h2) ∧ AOk S' ∧ CSt h2 S' ∧ MSt h2 S' := by
  obtain ⟨h1, h2, E1, q1, E2, k2, C2, M2⟩ := both_ref K C M ha
  exact ⟨i32 a, h1, h2, refA S a, by rw [hf, E1, bd_some], by rw [hg h1 q1, E2, bd_some], k2, C2, M2⟩
theorem c_dot_ok {n : Nat} {x y : Int} (hn : n < 6) (h1 : -5940 ≤ x ∧ x ≤ 5940) (h2 : -5940 ≤ y ∧ y ≤ 5940) (C : CSt h S) : ∃ g3, fX6_dot 2 (i32 (n : Int)) (i32 x) (i32 y) h = some (1, g3) ∧ CSt g3 (actA S 1 n [((x : Rat), (y : Rat), false)]) ∧ Out h g3 := by
  obtain ⟨cap, lst, c1, c2, c3, c4, c5⟩ := C
  have co := c1.1.1
  have w7 := c1.1.2.1 7 (by decide)
  have e7 : sh h 7 = hR h 2 1 := rfl
  rw [e7] at w7
  obtain ⟨g1, E1, W1, T1⟩ := c_wipe w7
  obtain ⟨g2, cap2, E2, W2, T2⟩ := c_addKnot W1 (by decide) (a := x) (b := 1) (c := y) (d := 1) ⟨by omega, by omega⟩ ⟨by decide, by decide⟩ (by decide) ⟨by omega, by omega⟩ ⟨by decide, by decide⟩ (by decide) false
  have TT := T1.tr T2
  rw [List.nil_append, rat_1, rat_1] at W2
  obtain ⟨g3, E3, C3, O3⟩ := c_act (B := fun _ _ => False) (slot := n) (act := 1) c1 c2 c3 (by omega) c5 TT.1 TT.2.1 (TT.2.2.mono (fun _ _ z => Or.inl z)) (fun r k z => z.elim) W2
  refine ⟨g3, ?_, C3, O3⟩
  have er : hR g1 2 1 = hR h 2 1 := (T1.2.2.2 2 1 (by have := c1.1.2.2.2.2; omega) (fun z => by have := (c1.1.2.2.2.1 7 (by decide) 2 1 z).2.1; cases this)).2.2
  have kx1 : kc g1 (hR g1 2 1) = 4 := by rw [er]; exact W1.1.1
  have E2' : fX4_addKnot (hR h 2 1) (i64 x) 1 (i64 y) 1 0 g1 = some ((), g2) := E2
  have E3' : fX6_settle 2 1 (i32 (n : Int)) g2 = some (1, g3) := E3
  have d1 : decide (-5940 ≤ x ∧ x ≤ 5940) = true := decide_eq_true h1
  have d2 : decide (-5940 ≤ y ∧ y ≤ 5940) = true := decide_eq_true h2
  have d3 : decide (0 ≤ (n : Int) ∧ (n : Int) ≤ 5) = true := decide_eq_true (by omega)
  unfold fX6_dot
  rw [i64_of32 ⟨by omega, by omega⟩, c_isPlace ⟨by omega, by omega⟩, bd_some, d1, if_neg bzt0, i64_of32 ⟨by omega, by omega⟩, c_isPlace ⟨by omega, by omega⟩, bd_some, d2, if_neg bzt0, c_isStore ⟨by omega, by omega⟩, bd_some, d3, if_neg bzt0, if_pos co.k2, if_pos w7.1.1, E1, bd_some, if_pos kx1, er, E2', bd_some, E3', bd_some]
theorem m_dot_ok {n : Nat} {x y : Int} (hn : n < 6) (h1 : -5940 ≤ x ∧ x ≤ 5940) (h2 : -5940 ≤ y ∧ y ≤ 5940) (K : AOk S) (M : MSt h S) : ∃ g, fX7_dot 220 (i32 (n : Int)) (i32 x) (i32 y) h = some (1, g) ∧ MSt g (actA S 1 n [((x : Rat), (y : Rat), false)]) ∧ Fr In220 h g := by
  obtain ⟨g4, E4, J4, -, -, fin⟩ := m_told (act := 1) K M
  have q4 := J4.1
  have q := M.1.1
  have x0 : ix (i32 (37 * (n : Int))) 222 := ix_i (by omega) (by omega) (by decide)
  have x1 : ix (i32 (37 * (n : Int) + 1)) 222 := ix_i (by omega) (by omega) (by decide)
  have x2 : ix (i32 (37 * (n : Int) + 2)) 222 := ix_i (by omega) (by omega) (by decide)
  have x3 : ix (i32 (37 * (n : Int) + 3)) 222 := ix_i (by omega) (by omega) (by decide)
  have n0 : (i32 (37 * (n : Int))).toNatClampNeg = 37 * n := by rw [i32_nat (by omega) (by omega)]; omega
  have n1 : (i32 (37 * (n : Int) + 1)).toNatClampNeg = 37 * n + 1 := by rw [i32_nat (by omega) (by omega)]; omega
  have n2 : (i32 (37 * (n : Int) + 2)).toNatClampNeg = 37 * n + 2 := by rw [i32_nat (by omega) (by omega)]; omega
  have n3 : (i32 (37 * (n : Int) + 3)).toNatClampNeg = 37 * n + 3 := by rw [i32_nat (by omega) (by omega)]; omega
  have ex : ∃ g5, g5 = sI (sI (sI (sI g4 222 (37 * n) (i32 1)) 222 (37 * n + 1) (i32 x)) 222 (37 * n + 2) (i32 y)) 222 (37 * n + 3) 0 := ⟨_, rfl⟩
  obtain ⟨g5, e5⟩ := ex
  have F5 : Fr (fun r c => r = 222 ∧ 37 * n ≤ c ∧ c < 37 * n + 37) g4 g5 := by
    rw [e5]
    exact (((Fr.I _ ⟨rfl, by omega, by omega⟩).tr (Fr.I _ ⟨rfl, by omega, by omega⟩)).tr (Fr.I _ ⟨rfl, by omega, by omega⟩)).tr (Fr.I _ ⟨rfl, by omega, by omega⟩)
  have R5 : Rwi g5 n [((x : Rat), (y : Rat), false)] := by
    refine ⟨?_, fun k hk => ?_⟩
    · rw [e5, hI_sI, if_neg (by omega), hI_sI, if_neg (by omega), hI_sI, if_neg (by omega), hI_sI, if_pos ⟨rfl, rfl⟩]; rfl
    · have k0 : k = 0 := by have : k < 1 := hk; omega
      rw [k0, (kn_dot x y).1, (kn_dot x y).2.1, (kn_dot x y).2.2]
      refine ⟨?_, ?_, ?_⟩
      · rw [e5, hI_sI, if_neg (by omega), hI_sI, if_neg (by omega), hI_sI, if_pos ⟨rfl, rfl⟩]
      · rw [e5, hI_sI, if_neg (by omega), hI_sI, if_pos ⟨rfl, rfl⟩]
      · rw [e5, hI_sI, if_pos ⟨rfl, rfl⟩]; rfl
  obtain ⟨Mf, Ff⟩ := fin _ n [((x : Rat), (y : Rat), false)] g5 F5 (fun r c z => by omega) (m_row J4 hn K.1.len.1 F5 R5)
  refine ⟨sI g5 220 1 0, ?_, Mf, Ff⟩
  have E4' : fX7_remember 220 1 (sI h 220 0 0) = some ((), g4) := E4
  have d1 : decide (-5940 ≤ x ∧ x ≤ 5940) = true := decide_eq_true h1
  have d2 : decide (-5940 ≤ y ∧ y ≤ 5940) = true := decide_eq_true h2
  have d3 : decide (0 ≤ (n : Int) ∧ (n : Int) ≤ 5) = true := decide_eq_true (by omega)
  have mt := m_tell (F5.mo q4) 1
  unfold fX7_dot
  rw [if_pos q.k220, lt_def, i64_of32 ⟨by omega, by omega⟩, m_isPlace ⟨by omega, by omega⟩, bd_some, d1, if_neg bzt0, i64_of32 ⟨by omega, by omega⟩, m_isPlace ⟨by omega, by omega⟩, bd_some, d2, if_neg bzt0, m_isStore ⟨by omega, by omega⟩, bd_some, d3, if_neg bzt0, E4', bd_some]
  simp only [s37, one32, two32, thr32, i32_mul, i32_add, q4.r3, q4.k222, q4.l222, kc_sI, kl_sI, hR_sI, if_pos x0, if_pos x1, if_pos x2, if_pos x3, n0, n1, n2, n3, lt_def, reduceIte, ← e5]
  rw [one32] at mt
  rw [mt, bd_some]
theorem Cal_dot (a b c : Int32) : Cal (fX6_dot 2 a b c) (fX7_dot 220 a b c) := by
  obtain ⟨i, bi, rfl⟩ := i32_ex a
  obtain ⟨x, bx, rfl⟩ := i32_ex b
  obtain ⟨y, by0, rfl⟩ := i32_ex c
  intro h S K C M
  have Bx : B64 x := ⟨by have := bx.1; omega, by have := bx.2; omega⟩
  have By : B64 y := ⟨by have := by0.1; omega, by have := by0.2; omega⟩
  have co : Co h := by obtain ⟨cap, lst, c1, _⟩ := C; exact c1.1.1
  by_cases h1 : -5940 ≤ x ∧ x ≤ 5940
  · by_cases h2 : -5940 ≤ y ∧ y ≤ 5940
    · by_cases h3 : 0 ≤ i ∧ i ≤ 5
      · obtain ⟨n, rfl⟩ : ∃ n : Nat, i = n := ⟨i.toNat, by omega⟩
        obtain ⟨g3, E3, C3, O3⟩ := c_dot_ok (show n < 6 by omega) h1 h2 C
        obtain ⟨g4, E4, M4, F4⟩ := m_dot_ok (show n < 6 by omega) h1 h2 K (M.out O3)
        exact ⟨1, g3, g4, _, E3, E4, K.act (K.1.store (by omega) (can_dot h1 h2)), C3.inn F4, M4⟩
      · refine ref_cal K C M (a := -2) (by decide) ?_ (fun g q => ?_)
        · unfold fX6_dot
          rw [i64_of32 bx, c_isPlace Bx, bd_some, decide_eq_true h1, if_neg bzt0, i64_of32 by0, c_isPlace By, bd_some, decide_eq_true h2, if_neg bzt0, c_isStore bi, bd_some, decide_eq_false h3, if_pos bz_f, if_pos co.k2, m2_32]
        · unfold fX7_dot
          rw [if_pos q.k220, lt_def, i64_of32 bx, m_isPlace Bx, bd_some, decide_eq_true h1, if_neg bzt0, i64_of32 by0, m_isPlace By, bd_some, decide_eq_true h2, if_neg bzt0, m_isStore bi, bd_some, decide_eq_false h3, if_pos bz_f, m2_32]
    · refine ref_cal K C M (a := -1) (by decide) ?_ (fun g q => ?_)
      · unfold fX6_dot fX6_dot_b16
        rw [i64_of32 bx, c_isPlace Bx, bd_some, decide_eq_true h1, if_neg bzt0, i64_of32 by0, c_isPlace By, bd_some, decide_eq_false h2, if_pos bz_f, if_pos co.k2, m1_32]
      · have q0 : kc (sI g 220 0 0) 220 = 7 := q.k220
        unfold fX7_dot fX7_dot_b21
        rw [if_pos q.k220, lt_def, i64_of32 bx, m_isPlace Bx, bd_some, decide_eq_true h1, if_neg bzt0, i64_of32 by0, m_isPlace By, bd_some, decide_eq_false h2, if_pos bz_f, if_pos q0, m1_32]
  · refine ref_cal K C M (a := -1) (by decide) ?_ (fun g q => ?_)
    · unfold fX6_dot fX6_dot_b16
      rw [i64_of32 bx, c_isPlace Bx, bd_some, decide_eq_false h1, if_pos bz_f, if_pos co.k2, m1_32]
    · have q0 : kc (sI g 220 0 0) 220 = 7 := q.k220
      unfold fX7_dot fX7_dot_b21
      rw [if_pos q.k220, lt_def, i64_of32 bx, m_isPlace Bx, bd_some, decide_eq_false h1, if_pos bz_f, if_pos q0, m1_32]
/-! clear -/
theorem Cal_clear (a : Int32) : Cal (fX6_clear 2 a) (fX7_clear 220 a) := by
  obtain ⟨i, bi, rfl⟩ := i32_ex a
  intro h S K C M
  obtain ⟨cap, lst, c1, c2, c3, c4, c5⟩ := id C
  have co := c1.1.1
  by_cases h3 : 0 ≤ i ∧ i ≤ 5
  · obtain ⟨n, rfl⟩ : ∃ n : Nat, i = n := ⟨i.toNat, by omega⟩
    have hn : n < 6 := by omega
    have d3 : decide (0 ≤ (n : Int) ∧ (n : Int) ≤ 5) = true := decide_eq_true (by omega)
    have w7 := c1.1.2.1 7 (by decide)
    have wn := c1.1.2.1 n (by omega)
    have e7 : sh h 7 = hR h 2 1 := rfl
    have en : sh h n = hR h 3 n := by unfold sh; rw [if_pos (by omega)]
    rw [e7] at w7
    rw [en, c2 n (by omega)] at wn
    obtain ⟨g1, E1, W1, T1⟩ := c_wipe w7
    obtain ⟨g3, E3, C3, O3⟩ := c_act (B := fun _ _ => False) (slot := n) (act := 2) c1 c2 c3 (by omega) c5 T1.1 T1.2.1 (T1.2.2.mono (fun _ _ z => Or.inl z)) (fun r k z => z.elim) W1
    have M3 := M.out O3
    obtain ⟨g4, E4, J4, -, -, fin⟩ := m_told (act := 2) K M3
    have q := M3.1.1
    have q4 := J4.1
    have x0 : ix (i32 (37 * (n : Int))) 222 := ix_i (by omega) (by omega) (by decide)
    have n0 : (i32 (37 * (n : Int))).toNatClampNeg = 37 * n := by rw [i32_nat (by omega) (by omega)]; omega
    have F5 : Fr (fun r c => r = 222 ∧ 37 * n ≤ c ∧ c < 37 * n + 37) g4 (sI g4 222 (37 * n) 0) := Fr.I _ ⟨rfl, by omega, by omega⟩
    have R5 : Rwi (sI g4 222 (37 * n) 0) n [] := ⟨by rw [hI_sI, if_pos ⟨rfl, rfl⟩]; rfl, fun k hk => absurd hk (Nat.not_lt_zero k)⟩
    obtain ⟨Mf, Ff⟩ := fin _ n [] _ F5 (fun r c z => by omega) (m_row J4 hn K.1.len.1 F5 R5)
    have E3' : fX6_settle 2 2 (i32 (n : Int)) g1 = some (0, g3) := E3
    have E4' : fX7_remember 220 2 (sI g3 220 0 0) = some ((), g4) := E4
    have sl : ix (i32 (n : Int)) 7 := ix_i (by omega) (by omega) (by decide)
    have sn : (i32 (n : Int)).toNatClampNeg = n := nat_i n (by omega)
    refine ⟨i32 ((aC S n).length : Int), g3, _, actA S 2 n [], ?_, ?_, K.act (K.1.store hn can_nil), C3.inn Ff, Mf⟩
    · unfold fX6_clear
      rw [c_isStore bi, bd_some, d3, if_neg bzt0, if_pos co.k2, co.r2_0, if_pos co.k3, co.l3, if_pos sl]
      simp only [sn]
      rw [if_pos wn.1.1, lt_def, if_pos w7.1.1, E1, bd_some, E3', bd_some, wn.2.1.1]
    · unfold fX7_clear
      rw [if_pos q.k220, lt_def, m_isStore bi, bd_some, d3, if_neg bzt0, E4', bd_some, m_many q4 hn (J4.2.1 n hn), bd_some, q4.r3, if_pos q4.k222, q4.l222, s37, i32_mul, if_pos x0, lt_def]
      simp only [n0]
      rw [m_tell (F5.mo q4), bd_some]
  · refine ref_cal K C M (a := -2) (by decide) ?_ (fun g q => ?_)
    · unfold fX6_clear
      rw [c_isStore bi, bd_some, decide_eq_false h3, if_pos bz_f, if_pos co.k2, m2_32]
    · unfold fX7_clear
      rw [if_pos q.k220, lt_def, m_isStore bi, bd_some, decide_eq_false h3, if_pos bz_f, m2_32]
end DO
