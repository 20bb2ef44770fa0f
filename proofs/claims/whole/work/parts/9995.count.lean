/-! CALLS: count -/
def fitP (kn : Kn) : Bool := decide (kn.1.den = 1) && (decide (kn.2.1.den = 1) && (decide (-5940 ≤ kn.1.num ∧ kn.1.num ≤ 5940) && decide (-5940 ≤ kn.2.1.num ∧ kn.2.1.num ≤ 5940)))
def fitS (ks : List Kn) : Bool := decide (ks.length ≤ 12) && ks.all fitP
section CN
variable {h : xH} {S : Ast} {s cap : Nat} {ks : List Kn}
theorem den1 {q : Rat} (hq : (q.den : Int) ≤ 70000000000000000) : (lg_cmp (i64 (q.den : Int)) (i64 1) = 0) ↔ q.den = 1 := by
  rw [lz_eq ⟨by omega, by omega⟩ ⟨by decide, by decide⟩]; omega
theorem c_fit13 (W : ShK h s cap ks) (B : PaB ks) : ∀ (d k m : Nat), k + d = ks.length → d < m → fX4_fitsStore_l13 m s (i32 (k : Int)) h = some (bz ((ks.drop k).all fitP), h) := by
  have hc := W.2.2
  intro d
  induction d with
  | zero =>
    intro k m hk hm
    obtain ⟨m, rfl⟩ : ∃ k, m = k + 1 := ⟨m - 1, by omega⟩
    rw [List.drop_eq_nil_of_le (by omega)]
    show fX4_fitsStore_b13 _ s _ h = _
    unfold fX4_fitsStore_b13
    rw [if_pos W.1.1, W.2.1.1, if_pos (by rw [show k = ks.length by omega]; exact Int32.le_refl _)]
    rfl
  | succ d ih =>
    intro k m hk hm
    obtain ⟨m, rfl⟩ : ∃ k, m = k + 1 := ⟨m - 1, by omega⟩
    have hkl : k < ks.length := by omega
    have hg : ks[k]? = some ks[k] := List.getElem?_eq_getElem hkl
    have v := W.2.1.2 k _ hg
    have b := B.2 ks[k] (List.getElem_mem _)
    rw [List.drop_eq_getElem_cons hkl, List.all_cons]
    generalize ks[k] = kn at *
    have nk : (i32 (k : Int)).toNatClampNeg = k := nat_i k (by omega)
    have r : ∀ j, 1 ≤ j → j ≤ 4 → kc h (hR h s j) = 9 ∧ ix (i32 (k : Int)) (kl h (hR h s j)) := fun j a c => ⟨(W.1.2.1 j a c).1, by rw [(W.1.2.1 j a c).2]; exact ix_i (by omega) (by omega) (by omega)⟩
    have i1 := ih (k + 1) m (by omega) (by omega)
    show fX4_fitsStore_b13 _ s _ h = _
    unfold fX4_fitsStore_b13
    rw [if_pos W.1.1, W.2.1.1, if_neg (nle32 hkl (by omega)), if_pos (r 2 (by decide) (by decide)).1, if_pos (r 2 (by decide) (by decide)).2]
    simp only [nk]
    rw [v.2.1, o64]
    unfold fitP
    by_cases c1 : kn.1.den = 1
    · rw [if_pos ((den1 b.2.1).mpr c1), if_pos (r 4 (by decide) (by decide)).1, if_pos (r 4 (by decide) (by decide)).2, v.2.2.2.1, decide_eq_true c1, Bool.true_and]
      by_cases c2 : kn.2.1.den = 1
      · rw [if_pos ((den1 b.2.2.2).mpr c2), if_pos (r 1 (by decide) (by decide)).1, if_pos (r 1 (by decide) (by decide)).2, v.1, c_isPlace ⟨by omega, by omega⟩, bd_some, decide_eq_true c2, Bool.true_and]
        cases e1 : decide (-5940 ≤ kn.1.num ∧ kn.1.num ≤ 5940)
        · rw [if_pos bz_f]; rfl
        · rw [if_neg bzt0, if_pos (r 3 (by decide) (by decide)).1, if_pos (r 3 (by decide) (by decide)).2, v.2.2.1, c_isPlace ⟨by omega, by omega⟩, bd_some]
          cases e2 : decide (-5940 ≤ kn.2.1.num ∧ kn.2.1.num ≤ 5940)
          · rw [if_pos bz_f]; rfl
          · rw [if_neg bzt0, lt_def, one32, i32_add, kp1, i1]; rfl
      · rw [if_neg (fun z => c2 ((den1 b.2.2.2).mp z)), decide_eq_false c2]; rfl
    · rw [if_neg (fun z => c1 ((den1 b.2.1).mp z)), decide_eq_false c1]; rfl
theorem c_fits (W : ShK h s cap ks) (B : PaB ks) : fX4_fitsStore s h = some (bz (fitS ks), h) := by
  have hc := W.2.2
  have hl := B.1
  unfold fX4_fitsStore fitS
  rw [if_pos W.1.1, W.2.1.1]
  by_cases c : ks.length ≤ 12
  · rw [if_pos (show i32 (ks.length : Int) ≤ (12 : Int32) from (i32_le (b := 12) ⟨by omega, by omega⟩ ⟨by decide, by decide⟩).mpr (by omega)), lt_def, decide_eq_true c, Bool.true_and]
    have := c_fit13 W B ks.length 0 FU (by omega) (by rw [FU_eq]; omega)
    rw [List.drop_zero] at this
    exact this
  · rw [if_neg (show ¬ i32 (ks.length : Int) ≤ (12 : Int32) from fun z => c (by have := (i32_le (a := (ks.length : Int)) (b := 12) ⟨by omega, by omega⟩ ⟨by decide, by decide⟩).mp z; omega)), decide_eq_false c]; rfl
theorem m_fit17 (q : Mo h) (kp : Kp h ks) (B : PaB ks) : ∀ (d k m : Nat) (so : Bool), k + d = ks.length → d < m → fX7_canPut_l17 m 220 (bz so) (i32 (k : Int)) h = some (bz (so && (ks.drop k).all fitP), h) := by
  have hl := B.1
  intro d
  induction d with
  | zero =>
    intro k m so hk hm
    obtain ⟨m, rfl⟩ : ∃ k, m = k + 1 := ⟨m - 1, by omega⟩
    rw [List.drop_eq_nil_of_le (by omega), List.all_nil, Bool.and_true]
    show fX7_canPut_b17 _ 220 _ _ h = _
    unfold fX7_canPut_b17
    rw [if_pos q.k220, kp.2, if_pos (by rw [show k = ks.length by omega]; exact Int32.le_refl _), if_pos (bz_01 so)]
  | succ d ih =>
    intro k m so hk hm
    obtain ⟨m, rfl⟩ : ∃ k, m = k + 1 := ⟨m - 1, by omega⟩
    have hkl : k < ks.length := by omega
    have hg : ks[k]? = some ks[k] := List.getElem?_eq_getElem hkl
    have v := kp.1 k _ hg
    have b := B.2 ks[k] (List.getElem_mem _)
    rw [List.drop_eq_getElem_cons hkl, List.all_cons]
    generalize ks[k] = kn at *
    have x0 : ix (i32 (4 * (k : Int))) 6400 := ix_i (by omega) (by omega) (by decide)
    have x1 : ix (i32 (4 * (k : Int) + 1)) 6400 := ix_i (by omega) (by omega) (by decide)
    have x2 : ix (i32 (4 * (k : Int) + 2)) 6400 := ix_i (by omega) (by omega) (by decide)
    have x3 : ix (i32 (4 * (k : Int) + 3)) 6400 := ix_i (by omega) (by omega) (by decide)
    have n0 : (i32 (4 * (k : Int))).toNatClampNeg = 4 * k := by rw [i32_nat (by omega) (by omega)]; omega
    have n1 : (i32 (4 * (k : Int) + 1)).toNatClampNeg = 4 * k + 1 := by rw [i32_nat (by omega) (by omega)]; omega
    have n2 : (i32 (4 * (k : Int) + 2)).toNatClampNeg = 4 * k + 2 := by rw [i32_nat (by omega) (by omega)]; omega
    have n3 : (i32 (4 * (k : Int) + 3)).toNatClampNeg = 4 * k + 3 := by rw [i32_nat (by omega) (by omega)]; omega
    have iF := ih (k + 1) m false (by omega) (by omega)
    have iT := ih (k + 1) m true (by omega) (by omega)
    have iF' : fX7_canPut_l17 m 220 0 (i32 ((k + 1 : Nat) : Int)) h = _ := iF
    have iT' : fX7_canPut_l17 m 220 (i32 1) (i32 ((k + 1 : Nat) : Int)) h = _ := iT
    show fX7_canPut_b17 _ 220 _ _ h = _
    unfold fX7_canPut_b17 fX7_canPut_b93 fX7_canPut_b94
    rw [if_pos q.k220, kp.2, if_neg (nle32 hkl (by omega))]
    cases so
    · rw [if_pos bz_f, if_pos (bz_01 false)]; rfl
    · rw [if_neg bzt0]
      simp only [fou32, one32, two32, thr32, i32_mul, i32_add, q.r5, q.k223, q.l223, if_pos x0, if_pos x1, if_pos x2, if_pos x3, n0, n1, n2, n3, v.1, v.2.1, v.2.2.1, v.2.2.2.1, o64, den1 b.2.1, den1 b.2.2.2, m_isPlace (a := kn.1.num) ⟨by omega, by omega⟩, m_isPlace (a := kn.2.1.num) ⟨by omega, by omega⟩, bd_some, lt_def, kp1, reduceIte, iF', iT', bz_eq0]
      unfold fitP
      by_cases c1 : kn.1.den = 1
      · by_cases c2 : kn.2.1.den = 1
        · rw [if_pos c1, if_pos c2, decide_eq_true c1, decide_eq_true c2]
          cases e1 : decide (-5940 ≤ kn.1.num ∧ kn.1.num ≤ 5940) <;> cases e2 : decide (-5940 ≤ kn.2.1.num ∧ kn.2.1.num ≤ 5940) <;> simp
        · rw [if_pos c1, if_neg c2, decide_eq_false c2]; simp
      · rw [if_neg c1, decide_eq_false c1]; simp
theorem m_canPut (q : Mo h) (kp : Kp h ks) (B : PaB ks) : fX7_canPut 220 h = some (bz (fitS ks), h) := by
  have hl := B.1
  unfold fX7_canPut fX7_canPut_b14 fitS
  rw [if_pos q.k220, kp.2]
  by_cases c : ks.length ≤ 12
  · rw [if_neg (fun z => by have := (i32_lt (a := 12) ⟨by decide, by decide⟩ ⟨by omega, by omega⟩).mp z; omega), lt_def, decide_eq_true c]
    have := m_fit17 q kp B ks.length 0 FU true (by omega) (by rw [FU_eq]; omega)
    rw [List.drop_zero] at this
    exact this
  · rw [if_pos (show (12 : Int32) < i32 (ks.length : Int) from (i32_lt (a := 12) ⟨by decide, by decide⟩ ⟨by omega, by omega⟩).mpr (by omega)), lt_def, decide_eq_false c]
    have := m_fit17 q kp B ks.length 0 FU false (by omega) (by rw [FU_eq]; omega)
    exact this
theorem m_parts (q : Mo h) (kp : Kp h ks) (hl : ks.length ≤ 1600) : fX7_paperParts 220 h = some (i32 (nParts ks), h) := by
  unfold fX7_paperParts
  rw [lt_def, lt_def]
  refine (fo_loop (G := fun m (a : Int) k => fX7_paperParts_l4 m 220 (i32 a) (i32 (k : Nat)) h) (st := sParts ks) (out := fun a => some (i32 a, h)) (I := fun _ _ => True) (N := ks.length) ?_ ?_ ks.length 0 FU 0 (by omega) (by rw [FU_eq]; omega) trivial).1
  · intro m a _
    show fX7_paperParts_b4 _ 220 _ (i32 ks.length) h = _
    unfold fX7_paperParts_b4
    rw [if_pos q.k220, kp.2, if_pos (Int32.le_refl _)]
  · intro m a k hk _
    refine ⟨trivial, ?_⟩
    have x0 : ix (i32 (k : Int)) 1600 := ix_i (by omega) (by omega) (by decide)
    have n0 : (i32 (k : Int)).toNatClampNeg = k := nat_i k (by omega)
    obtain ⟨kn, hm, e0, _, _, eg⟩ := k_at hk
    have v := (kp.1 k kn e0).2.2.2.2
    rw [← eg] at v
    show fX7_paperParts_b4 _ 220 (i32 a) (i32 (k : Int)) h = fX7_paperParts_l4 _ _ _ _ _
    unfold fX7_paperParts_b4 fX7_paperParts_b27 sParts
    rw [if_pos q.k220, kp.2, if_neg (nle32 hk (by omega)), q.r6, if_pos q.k224, q.l224, if_pos x0]
    simp only [n0]
    rw [v]
    cases gk : kg ks k
    · rw [if_pos bz_f, if_neg (by decide)]; simp only [lt_def, one32, i32_add, kp1]
    · rw [if_neg bzt0, if_pos rfl]; simp only [lt_def, one32, z32, i32_add, kp1, Int.add_zero]
theorem Cal_count (a : Int32) : Cal (fX6_count 2 a) (fX7_count 220 a) := by
  obtain ⟨w, bw, rfl⟩ := i32_ex a
  intro h S K C M
  obtain ⟨cap, lst, c1, c2, c3, c4, c5⟩ := id C
  obtain ⟨m1, m2, m3, m4, m5⟩ := id M
  have co := c1.1.1
  have ci := C.ci0
  have f0 : Fr (fun r c => r = 220 ∧ c = 0) h (sI h 220 0 0) := Fr.I _ ⟨rfl, rfl⟩
  have C0 := C.inn (f0.mono (fun r c z => by unfold In220; omega))
  have M0 := M.sm K f0 (fun r c z => by omega)
  obtain ⟨k1, k2, k3, k4, k5⟩ := id M0
  have q := k1.1
  have Bw : B64 w := ⟨by have := bw.1; omega, by have := bw.2; omega⟩
  have ee : ∀ n : Nat, n ≤ 15 → ((i32 w = i32 (n : Int)) ↔ w = n) := fun n hn => i32_eq bw ⟨by omega, by omega⟩
  have e6 : (i32 w = (6 : Int32)) ↔ w = 6 := ee 6 (by decide)
  have e7 : (i32 w = (7 : Int32)) ↔ w = 7 := ee 7 (by decide)
  have e8 : (i32 w = (8 : Int32)) ↔ w = 8 := ee 8 (by decide)
  have e9 : (i32 w = (9 : Int32)) ↔ w = 9 := ee 9 (by decide)
  have e10 : (i32 w = (10 : Int32)) ↔ w = 10 := ee 10 (by decide)
  have e11 : (i32 w = (11 : Int32)) ↔ w = 11 := ee 11 (by decide)
  have e12 : (i32 w = (12 : Int32)) ↔ w = 12 := ee 12 (by decide)
  have e13 : (i32 w = (13 : Int32)) ↔ w = 13 := ee 13 (by decide)
  have e14 : (i32 w = (14 : Int32)) ↔ w = 14 := ee 14 (by decide)
  have e15 : (i32 w = (15 : Int32)) ↔ w = 15 := ee 15 (by decide)
  have l1 : (i32 w < (0 : Int32)) ↔ w < 0 := i32_lt bw (b := 0) ⟨by decide, by decide⟩
  have l2 : ((6 : Int32) ≤ i32 w) ↔ 6 ≤ w := i32_le (a := 6) ⟨by decide, by decide⟩ bw
  obtain ⟨cap6, W6⟩ := ci.2 6 (by decide)
  have x6 : ix (6 : Int32) 7 := ix_i (z := 6) (by decide) (by decide) (by decide)
  have s6 : (6 : Int32).toNatClampNeg = 6 := by decide
  have PB := K.1.2.1
  obtain ⟨nx, n1, n2, n3, n4, n5⟩ := c1.2.1
  have hU : hI (sI h 220 0 0) 220 12 = i32 ((aU S).length : Int) := by
    obtain ⟨fu, u1, u2, u3, u4, u5⟩ := k2
    rw [u4, snL_len]
  have fin : ∀ (v : Int32), fX6_count 2 (i32 w) h = some (v, h) → fX7_count 220 (i32 w) h = some (v, sI h 220 0 0) → ∃ r h1 h2 S', fX6_count 2 (i32 w) h = some (r, h1) ∧ fX7_count 220 (i32 w) h1 = some (r, h2) ∧ AOk S' ∧ CSt h2 S' ∧ MSt h2 S' := fun v E1 E2 => ⟨v, h, sI h 220 0 0, S, E1, E2, K, C0, M0⟩
  have r66 : ∀ k, k < 7 → hI h 66 k = aR S k := c5.1
  have r221 : ∀ k, k < 7 → hI (sI h 220 0 0) 221 k = aR S k := k5.1
  have ixr : ∀ n : Nat, n < 7 → ix (i32 (n : Int)) 7 ∧ (i32 (n : Int)).toNatClampNeg = n := fun n hn => ⟨ix_i (by omega) (by omega) (by decide), nat_i n (by omega)⟩
  by_cases c0 : 0 ≤ w ∧ w ≤ 5
  · obtain ⟨n, rfl⟩ : ∃ n : Nat, w = n := ⟨w.toNat, by omega⟩
    obtain ⟨capn, Wn⟩ := ci.2 n (by omega)
    refine fin (i32 ((aC S n).length : Int)) ?_ ?_
    · unfold fX6_count
      rw [if_neg (fun z => by have := l1.mp z; omega), if_neg (fun z => by have := l2.mp z; omega), if_pos co.k2, co.r2_0, if_pos co.k3, co.l3, if_pos (ixr n (by omega)).1]
      simp only [(ixr n (by omega)).2]
      rw [if_pos Wn.1.1, Wn.2.1.1]
    · unfold fX7_count
      rw [if_pos m1.1.k220, lt_def, if_neg (fun z => by have := e6.mp z; omega), if_neg (fun z => by have := e7.mp z; omega), if_neg (fun z => by have := e8.mp z; omega), if_neg (fun z => by have := e9.mp z; omega), if_neg (fun z => by have := e10.mp z; omega), i64_of32 bw, z64, show (5 : Int64) = i64 5 from rfl, m_in (b := 0) (c := 5) Bw ⟨by decide, by decide⟩ ⟨by decide, by decide⟩, bd_some, decide_eq_true c0, if_neg bzt0, m_many q (by omega) (k1.2.1 n (by omega)), bd_some]
  · have cc : fX6_count 2 (i32 w) h = fX6_count_b20 2 (i32 w) h := by
      unfold fX6_count
      by_cases c : w < 0
      · rw [if_pos (l1.mpr c)]
      · rw [if_neg (fun z => c (l1.mp z)), if_pos (l2.mpr (by omega))]
    rw [cc] at fin ⊢
    unfold fX6_count_b20 fX7_count at *
    simp only [e6, e7, e8, e9, e10, e11, e12, e13, e14, e15, if_pos m1.1.k220, lt_def, if_pos co.k2, co.r2_0, if_pos co.k3, co.l3, if_pos x6, s6, if_pos W6.1.1, W6.2.1.1, co.r2_2, if_pos co.k10, n4, co.r2_5, if_pos co.k64, c5.2.1, co.r2_7, if_pos co.k66, co.l66, k1.2.2.2, hU, k5.2.1, c_parts W6, bd_some, c_fits W6 PB, m_parts q k1.2.2 PB.1, m_canPut q k1.2.2 PB, i64_of32 bw, z64, show (5 : Int64) = i64 5 from rfl, show (11 : Int64) = i64 11 from rfl, show (12 : Int64) = i64 12 from rfl, show (13 : Int64) = i64 13 from rfl, show (15 : Int64) = i64 15 from rfl, m_in (b := 0) (c := 5) Bw ⟨by decide, by decide⟩ ⟨by decide, by decide⟩, m_in (b := 11) (c := 12) Bw ⟨by decide, by decide⟩ ⟨by decide, by decide⟩, m_in (b := 13) (c := 15) Bw ⟨by decide, by decide⟩ ⟨by decide, by decide⟩, bzd, if_neg c0, q.r2, q.k221, q.l221, reduceIte] at fin ⊢
    have ixl : ∀ n : Nat, n < 7 → ix (i32 (n : Int)) 7 ∧ hI h 66 (i32 (n : Int)).toNatClampNeg = aR S n ∧ hI (sI h 220 0 0) 221 (i32 (n : Int)).toNatClampNeg = aR S n := fun n hn => ⟨(ixr n hn).1, by rw [(ixr n hn).2]; exact r66 n hn, by rw [(ixr n hn).2]; exact r221 n hn⟩
    rcases (show w = 6 ∨ w = 7 ∨ w = 8 ∨ w = 9 ∨ w = 10 ∨ w = 11 ∨ w = 12 ∨ w = 13 ∨ w = 14 ∨ w = 15 ∨ (w < 0 ∨ 15 < w) by omega) with e | e | e | e | e | e | e | e | e | e | e
    · exact fin (i32 ((aC S 6).length : Int)) (by rw [if_pos e]) (by rw [if_pos e])
    · exact fin (i32 (nParts (aC S 6))) (by rw [if_neg (by omega), if_pos e]) (by rw [if_neg (by omega), if_pos e])
    · refine fin (bz (fitS (aC S 6))) ?_ ?_
      · rw [if_neg (by omega), if_neg (by omega), if_pos e]; cases fitS (aC S 6) <;> rfl
      · rw [if_neg (by omega), if_neg (by omega), if_pos e]; cases fitS (aC S 6) <;> rfl
    · exact fin (i32 ((aU S).length : Int)) (by rw [if_neg (by omega), if_neg (by omega), if_neg (by omega), if_pos e]) (by rw [if_neg (by omega), if_neg (by omega), if_neg (by omega), if_pos e])
    · exact fin (i32 ((aT S).1 : Int)) (by rw [if_neg (by omega), if_neg (by omega), if_neg (by omega), if_neg (by omega), if_pos e]) (by rw [if_neg (by omega), if_neg (by omega), if_neg (by omega), if_neg (by omega), if_pos e])
    · have x := ixl 1 (by decide)
      have e3 : i32 w - (10 : Int32) = i32 ((1 : Nat) : Int) := by rw [e]; rfl
      refine fin (aR S 1) ?_ ?_
      · rw [if_neg (by omega), if_neg (by omega), if_neg (by omega), if_neg (by omega), if_neg (by omega), if_pos e, if_pos (show ix (1 : Int32) 7 from x.1)]
        exact congrArg (fun t => some (t, h)) x.2.1
      · rw [if_neg (by omega), if_neg (by omega), if_neg (by omega), if_neg (by omega), if_neg (by omega), if_pos (by omega)]
        simp only [e3]
        rw [if_pos x.1, x.2.2]
    · have x := ixl 2 (by decide)
      have e3 : i32 w - (10 : Int32) = i32 ((2 : Nat) : Int) := by rw [e]; rfl
      refine fin (aR S 2) ?_ ?_
      · rw [if_neg (by omega), if_neg (by omega), if_neg (by omega), if_neg (by omega), if_neg (by omega), if_neg (by omega), if_pos e, if_pos (show ix (2 : Int32) 7 from x.1)]
        exact congrArg (fun t => some (t, h)) x.2.1
      · rw [if_neg (by omega), if_neg (by omega), if_neg (by omega), if_neg (by omega), if_neg (by omega), if_pos (by omega)]
        simp only [e3]
        rw [if_pos x.1, x.2.2]
    · have x := ixl 4 (by decide)
      have e3 : i32 w - (9 : Int32) = i32 ((4 : Nat) : Int) := by rw [e]; rfl
      refine fin (aR S 4) ?_ ?_
      · rw [if_neg (by omega), if_neg (by omega), if_neg (by omega), if_neg (by omega), if_neg (by omega), if_neg (by omega), if_neg (by omega), if_pos e, if_pos (show ix (4 : Int32) 7 from x.1)]
        exact congrArg (fun t => some (t, h)) x.2.1
      · rw [if_neg (by omega), if_neg (by omega), if_neg (by omega), if_neg (by omega), if_neg (by omega), if_neg (by omega), if_pos (by omega)]
        simp only [e3]
        rw [if_pos x.1, x.2.2]
    · have x := ixl 5 (by decide)
      have e3 : i32 w - (9 : Int32) = i32 ((5 : Nat) : Int) := by rw [e]; rfl
      refine fin (aR S 5) ?_ ?_
      · rw [if_neg (by omega), if_neg (by omega), if_neg (by omega), if_neg (by omega), if_neg (by omega), if_neg (by omega), if_neg (by omega), if_neg (by omega), if_pos e, if_pos (show ix (5 : Int32) 7 from x.1)]
        exact congrArg (fun t => some (t, h)) x.2.1
      · rw [if_neg (by omega), if_neg (by omega), if_neg (by omega), if_neg (by omega), if_neg (by omega), if_neg (by omega), if_pos (by omega)]
        simp only [e3]
        rw [if_pos x.1, x.2.2]
    · have x := ixl 6 (by decide)
      have e3 : i32 w - (9 : Int32) = i32 ((6 : Nat) : Int) := by rw [e]; rfl
      refine fin (aR S 6) ?_ ?_
      · rw [if_neg (by omega), if_neg (by omega), if_neg (by omega), if_neg (by omega), if_neg (by omega), if_neg (by omega), if_neg (by omega), if_neg (by omega), if_neg (by omega), if_pos e]
        exact congrArg (fun t => some (t, h)) x.2.1
      · rw [if_neg (by omega), if_neg (by omega), if_neg (by omega), if_neg (by omega), if_neg (by omega), if_neg (by omega), if_pos (by omega)]
        simp only [e3]
        rw [if_pos x.1, x.2.2]
    · refine fin (-1) ?_ ?_
      · rw [if_neg (by omega), if_neg (by omega), if_neg (by omega), if_neg (by omega), if_neg (by omega), if_neg (by omega), if_neg (by omega), if_neg (by omega), if_neg (by omega), if_neg (by omega)]
      · rw [if_neg (by omega), if_neg (by omega), if_neg (by omega), if_neg (by omega), if_neg (by omega), if_neg (by omega), if_neg (by omega)]
end CN
