/-! CALLS: put -/
section PU
variable {h : xH} {S : Ast} {ks : List Kn} {i : Nat}
def vX (ks : List Kn) (k : Nat) : Int32 := if k < ks.length then i32 (kx ks k) else 0
def vY (ks : List Kn) (k : Nat) : Int32 := if k < ks.length then i32 (ky ks k) else 0
def vG (ks : List Kn) (k : Nat) : Int32 := if k < ks.length then bz (kg ks k) else 0
theorem st_step1 (q : Mo h) (kp : Kp h ks) (hl : ks.length ≤ 12) (hi : i < 6) {k : Nat} (hk : k < 12) (m : Nat) (c : k < ks.length) : fX7_store_l15 (m + 1) 220 (i32 (i : Int)) (i32 (k : Int)) h = fX7_store_l15 m 220 (i32 (i : Int)) (i32 ((k + 1 : Nat) : Int)) (sI (sI (sI h 222 (37 * i + 1 + 3 * k) (vX ks k)) 222 (37 * i + 2 + 3 * k) (vY ks k)) 222 (37 * i + 3 + 3 * k) (vG ks k)) := by
  have x1 : ix (i32 (37 * (i : Int) + 1 + 3 * (k : Int))) 222 := ix_i (by omega) (by omega) (by decide)
  have x2 : ix (i32 (37 * (i : Int) + 2 + 3 * (k : Int))) 222 := ix_i (by omega) (by omega) (by decide)
  have x3 : ix (i32 (37 * (i : Int) + 3 + 3 * (k : Int))) 222 := ix_i (by omega) (by omega) (by decide)
  have n1 : (i32 (37 * (i : Int) + 1 + 3 * (k : Int))).toNatClampNeg = 37 * i + 1 + 3 * k := by rw [i32_nat (by omega) (by omega)]; omega
  have n2 : (i32 (37 * (i : Int) + 2 + 3 * (k : Int))).toNatClampNeg = 37 * i + 2 + 3 * k := by rw [i32_nat (by omega) (by omega)]; omega
  have n3 : (i32 (37 * (i : Int) + 3 + 3 * (k : Int))).toNatClampNeg = 37 * i + 3 + 3 * k := by rw [i32_nat (by omega) (by omega)]; omega
  have c4 : ∀ (a b : Nat) (v w : Int32), hI (sI h 222 a v) 220 4 = i32 (ks.length : Int) ∧ hI (sI (sI h 222 a v) 222 b w) 220 4 = i32 (ks.length : Int) := fun a b v w => ⟨by rw [hI_sI, if_neg (by omega)]; exact kp.2, by rw [hI_sI, if_neg (by omega), hI_sI, if_neg (by omega)]; exact kp.2⟩
  show fX7_store_b15 _ 220 _ _ h = _
  unfold fX7_store_b15 fX7_store_b56 fX7_store_b94 fX7_store_b130 fX7_store_b131
  rw [if_neg (show ¬ (12 : Int32) ≤ i32 (k : Int) from fun z => by have := (i32_le (a := 12) (b := (k : Int)) ⟨by decide, by decide⟩ ⟨by omega, by omega⟩).mp z; omega)]
  obtain ⟨kn, hm, e0, ex, ey, eg⟩ := k_at c
  have v := kp.1 k kn e0
  rw [← ex, ← ey, ← eg] at v
  have y0 : ix (i32 (4 * (k : Int))) 6400 := ix_i (by omega) (by omega) (by decide)
  have y2 : ix (i32 (4 * (k : Int) + 2)) 6400 := ix_i (by omega) (by omega) (by decide)
  have y3 : ix (i32 (k : Int)) 1600 := ix_i (by omega) (by omega) (by decide)
  have m0 : (i32 (4 * (k : Int))).toNatClampNeg = 4 * k := by rw [i32_nat (by omega) (by omega)]; omega
  have m2 : (i32 (4 * (k : Int) + 2)).toNatClampNeg = 4 * k + 2 := by rw [i32_nat (by omega) (by omega)]; omega
  have m3 : (i32 (k : Int)).toNatClampNeg = k := nat_i k (by omega)
  have g3 : ∀ (a b : Nat) (v w : Int32), hI (sI (sI h 222 a v) 222 b w) 224 k = bz (kg ks k) := fun a b v' w' => by rw [hI_sI, if_neg (by omega), hI_sI, if_neg (by omega)]; exact v.2.2.2.2
  have nl := nle32 (a := ks.length) (b := k) c (by omega)
  simp only [s37, one32, two32, thr32, fou32, i32_mul, i32_add, q.k220, q.r3, q.k222, q.l222, q.r5, q.k223, q.l223, q.r6, q.k224, q.l224, kc_sI, kl_sI, hR_sI, hJ_sI, kp.2, (c4 _ 0 _ 0).1, (c4 _ _ _ _).2, if_neg nl, if_pos x1, if_pos x2, if_pos x3, if_pos y0, if_pos y2, if_pos y3, n1, n2, n3, m0, m2, m3, v.1, v.2.2.1, g3, i32_of64, lt_def, kp1, reduceIte]
  unfold vX vY vG
  rw [if_pos c, if_pos c, if_pos c]
  cases gk : kg ks k
  · rw [if_pos bz_f, bz_f]
  · rw [if_neg bzt0, show bz true = i32 1 from rfl]
theorem st_step2 (q : Mo h) (kp : Kp h ks) (hl : ks.length ≤ 12) (hi : i < 6) {k : Nat} (hk : k < 12) (m : Nat) (c : ¬ k < ks.length) : fX7_store_l15 (m + 1) 220 (i32 (i : Int)) (i32 (k : Int)) h = fX7_store_l15 m 220 (i32 (i : Int)) (i32 ((k + 1 : Nat) : Int)) (sI (sI (sI h 222 (37 * i + 1 + 3 * k) (vX ks k)) 222 (37 * i + 2 + 3 * k) (vY ks k)) 222 (37 * i + 3 + 3 * k) (vG ks k)) := by
  have x1 : ix (i32 (37 * (i : Int) + 1 + 3 * (k : Int))) 222 := ix_i (by omega) (by omega) (by decide)
  have x2 : ix (i32 (37 * (i : Int) + 2 + 3 * (k : Int))) 222 := ix_i (by omega) (by omega) (by decide)
  have x3 : ix (i32 (37 * (i : Int) + 3 + 3 * (k : Int))) 222 := ix_i (by omega) (by omega) (by decide)
  have n1 : (i32 (37 * (i : Int) + 1 + 3 * (k : Int))).toNatClampNeg = 37 * i + 1 + 3 * k := by rw [i32_nat (by omega) (by omega)]; omega
  have n2 : (i32 (37 * (i : Int) + 2 + 3 * (k : Int))).toNatClampNeg = 37 * i + 2 + 3 * k := by rw [i32_nat (by omega) (by omega)]; omega
  have n3 : (i32 (37 * (i : Int) + 3 + 3 * (k : Int))).toNatClampNeg = 37 * i + 3 + 3 * k := by rw [i32_nat (by omega) (by omega)]; omega
  have c4 : ∀ (a b : Nat) (v w : Int32), hI (sI h 222 a v) 220 4 = i32 (ks.length : Int) ∧ hI (sI (sI h 222 a v) 222 b w) 220 4 = i32 (ks.length : Int) := fun a b v w => ⟨by rw [hI_sI, if_neg (by omega)]; exact kp.2, by rw [hI_sI, if_neg (by omega), hI_sI, if_neg (by omega)]; exact kp.2⟩
  have nl : i32 (ks.length : Int) ≤ i32 (k : Int) := (i32_le ⟨by omega, by omega⟩ ⟨by omega, by omega⟩).mpr (by omega)
  have a1 : vX ks k = 0 := if_neg c
  have a2 : vY ks k = 0 := if_neg c
  have a3 : vG ks k = 0 := if_neg c
  have F1 : Mo (sI h 222 (37 * i + 1 + 3 * k) 0) := (Fr.I (A := fun r c => r = 222) _ rfl).mo q
  have F2 : Mo (sI (sI h 222 (37 * i + 1 + 3 * k) 0) 222 (37 * i + 2 + 3 * k) 0) := (Fr.I (A := fun r c => r = 222) _ rfl).mo F1
  rw [a1, a2, a3]
  show fX7_store_b15 _ 220 _ _ h = _
  unfold fX7_store_b15
  rw [if_neg (show ¬ (12 : Int32) ≤ i32 (k : Int) from fun z => by have := (i32_le (a := 12) (b := (k : Int)) ⟨by decide, by decide⟩ ⟨by omega, by omega⟩).mp z; omega), if_pos q.k220, kp.2, if_pos nl, q.r3, s37, one32, thr32, i32_mul, i32_mul, i32_add, i32_add]
  unfold fX7_store_b56
  rw [if_pos q.k222, q.l222, if_pos x1, n1, lt_def, if_pos F1.k220, (c4 _ 0 _ 0).1, if_pos nl, F1.r3, s37, two32, thr32, i32_mul, i32_mul, i32_add, i32_add]
  unfold fX7_store_b94
  rw [if_pos F1.k222, F1.l222, if_pos x2, n2, lt_def, if_pos F2.k220, (c4 _ _ _ _).2, if_pos nl, F2.r3, s37, thr32, i32_mul, i32_mul, i32_add, i32_add]
  unfold fX7_store_b130 fX7_store_b131
  rw [if_pos F2.k222, F2.l222, if_pos x3, n3, lt_def, lt_def, one32, i32_add, kp1]
theorem st_step (q : Mo h) (kp : Kp h ks) (hl : ks.length ≤ 12) (hi : i < 6) {k : Nat} (hk : k < 12) (m : Nat) : fX7_store_l15 (m + 1) 220 (i32 (i : Int)) (i32 (k : Int)) h = fX7_store_l15 m 220 (i32 (i : Int)) (i32 ((k + 1 : Nat) : Int)) (sI (sI (sI h 222 (37 * i + 1 + 3 * k) (vX ks k)) 222 (37 * i + 2 + 3 * k) (vY ks k)) 222 (37 * i + 3 + 3 * k) (vG ks k)) := by
  by_cases c : k < ks.length
  · exact st_step1 q kp hl hi hk m c
  · exact st_step2 q kp hl hi hk m c
theorem st_loop (hl : ks.length ≤ 12) (hi : i < 6) : ∀ (d k m : Nat) (h : xH), k + d = 12 → d < m → Mo h → Kp h ks → (∀ j, j < k → hI h 222 (37 * i + 1 + 3 * j) = vX ks j ∧ hI h 222 (37 * i + 2 + 3 * j) = vY ks j ∧ hI h 222 (37 * i + 3 + 3 * j) = vG ks j) → ∃ h', fX7_store_l15 m 220 (i32 (i : Int)) (i32 (k : Int)) h = some ((), h') ∧ (∀ j, j < 12 → hI h' 222 (37 * i + 1 + 3 * j) = vX ks j ∧ hI h' 222 (37 * i + 2 + 3 * j) = vY ks j ∧ hI h' 222 (37 * i + 3 + 3 * j) = vG ks j) ∧ Fr (fun r c => r = 222 ∧ 37 * i + 1 ≤ c ∧ c < 37 * i + 37) h h' := by
  intro d
  induction d with
  | zero =>
    intro k m h hk hm q kp L
    obtain ⟨m, rfl⟩ : ∃ k, m = k + 1 := ⟨m - 1, by omega⟩
    refine ⟨h, ?_, fun j hj => L j (by omega), Fr.rf h⟩
    show fX7_store_b15 _ 220 _ _ h = _
    unfold fX7_store_b15
    rw [if_pos (show (12 : Int32) ≤ i32 (k : Int) from (i32_le (a := 12) (b := (k : Int)) ⟨by decide, by decide⟩ ⟨by omega, by omega⟩).mpr (by omega))]
  | succ d ih =>
    intro k m h hk hm q kp L
    obtain ⟨m, rfl⟩ : ∃ k, m = k + 1 := ⟨m - 1, by omega⟩
    have st := st_step q kp hl hi (show k < 12 by omega) m
    have ex : ∃ g, g = sI (sI (sI h 222 (37 * i + 1 + 3 * k) (vX ks k)) 222 (37 * i + 2 + 3 * k) (vY ks k)) 222 (37 * i + 3 + 3 * k) (vG ks k) := ⟨_, rfl⟩
    obtain ⟨g, eg⟩ := ex
    rw [← eg] at st
    have F1 : Fr (fun r c => r = 222 ∧ 37 * i + 1 ≤ c ∧ c < 37 * i + 37) h g := by
      rw [eg]
      exact ((Fr.I _ ⟨rfl, by omega, by omega⟩).tr (Fr.I _ ⟨rfl, by omega, by omega⟩)).tr (Fr.I _ ⟨rfl, by omega, by omega⟩)
    have kp1 : Kp g ks := by
      refine ⟨fun j kn e0 => ?_, by rw [(F1.2.2 220 4 (by omega)).1]; exact kp.2⟩
      rw [(F1.2.2 223 _ (by omega)).2, (F1.2.2 223 _ (by omega)).2, (F1.2.2 223 _ (by omega)).2, (F1.2.2 223 _ (by omega)).2, (F1.2.2 224 _ (by omega)).1]
      exact kp.1 j kn e0
    obtain ⟨h2, E2, L2, F2⟩ := ih (k + 1) m g (by omega) (by omega) (F1.mo q) kp1 (fun j hj => by
      rw [eg]
      simp only [hI_sI]
      by_cases c : j = k
      · rw [c]
        rw [if_neg (by omega), if_neg (by omega), if_pos ⟨trivial, rfl⟩, if_neg (by omega), if_pos ⟨trivial, rfl⟩, if_pos ⟨trivial, rfl⟩]
        exact ⟨rfl, rfl, rfl⟩
      · rw [if_neg (by omega), if_neg (by omega), if_neg (by omega), if_neg (by omega), if_neg (by omega), if_neg (by omega), if_neg (by omega), if_neg (by omega), if_neg (by omega)]
        exact L j (by omega))
    exact ⟨h2, st.trans E2, L2, F1.tr F2⟩
theorem m_store (q : Mo h) (kp : Kp h ks) (hl : ks.length ≤ 12) (hi : i < 6) : ∃ h', fX7_store 220 (i32 (i : Int)) h = some ((), h') ∧ Rwi h' i ks ∧ Fr (fun r c => r = 222 ∧ 37 * i ≤ c ∧ c < 37 * i + 37) h h' := by
  have x0 : ix (i32 (37 * (i : Int))) 222 := ix_i (by omega) (by omega) (by decide)
  have n0 : (i32 (37 * (i : Int))).toNatClampNeg = 37 * i := by rw [i32_nat (by omega) (by omega)]; omega
  have F0 : Fr (fun r c => r = 222 ∧ 37 * i ≤ c ∧ c < 37 * i + 37) h (sI h 222 (37 * i) (i32 (ks.length : Int))) := Fr.I _ ⟨rfl, by omega, by omega⟩
  have kp0 : Kp (sI h 222 (37 * i) (i32 (ks.length : Int))) ks := ⟨fun j kn e0 => by
      rw [hI_sI, if_neg (by omega)]
      exact kp.1 j kn e0, by rw [hI_sI, if_neg (by omega)]; exact kp.2⟩
  obtain ⟨h', E1, L1, F1⟩ := st_loop hl hi 12 0 FU (sI h 222 (37 * i) (i32 (ks.length : Int))) (by omega) (by rw [FU_eq]; omega) (F0.mo q) kp0 (fun j hj => by omega)
  refine ⟨h', ?_, ⟨by rw [(F1.2.2 222 _ (by omega)).1, hI_sI, if_pos ⟨rfl, rfl⟩], fun k hk => ?_⟩, F0.tr (F1.mono (fun r c z => by omega))⟩
  · unfold fX7_store
    rw [if_pos q.k220, q.r3, if_pos q.k222, q.l222, s37, i32_mul, if_pos x0, kp.2, lt_def, lt_def]
    simp only [n0]
    exact E1
  · have v := L1 k (by omega)
    unfold vX vY vG at v
    rw [if_pos hk, if_pos hk, if_pos hk] at v
    exact v
theorem fit_can {ks : List Kn} {L : Nat → Ln} {n : Nat} (hp : PaperIs L n ks) (hf : fitS ks = true) : Can ks := by
  unfold fitS at hf
  rw [Bool.and_eq_true, decide_eq_true_eq, List.all_eq_true] at hf
  refine can_of hp (fun k hk => ?_) hf.1
  have := hf.2 k hk
  unfold fitP at this
  simp only [Bool.and_eq_true, decide_eq_true_eq] at this
  exact ⟨this.1, this.2.1, this.2.2.1, this.2.2.2⟩
theorem Cal_put (a : Int32) : Cal (fX6_put 2 a) (fX7_put 220 a) := by
  obtain ⟨j, bi, rfl⟩ := i32_ex a
  intro h S K C M
  obtain ⟨cap, lst, c1, c2, c3, c4, c5⟩ := id C
  have co := c1.1.1
  have x6 : ix (6 : Int32) 7 := ix_i (z := 6) (by decide) (by decide) (by decide)
  have s6 : (6 : Int32).toNatClampNeg = 6 := by decide
  have w6 := c1.1.2.1 6 (by decide)
  have e6 : sh h 6 = hR h 3 6 := rfl
  have w6' := w6
  rw [e6, c2 6 (by decide)] at w6'
  have PB := K.1.2.1
  by_cases h3 : 0 ≤ j ∧ j ≤ 5
  · obtain ⟨n, rfl⟩ : ∃ n : Nat, j = n := ⟨j.toNat, by omega⟩
    have hn : n < 6 := by omega
    have d3 : decide (0 ≤ (n : Int) ∧ (n : Int) ≤ 5) = true := decide_eq_true (by omega)
    cases hf : fitS (aC S 6) with
    | false =>
      refine ref_cal2 K C M (a := -5) (by decide) ?_ (fun g Mg => ?_)
      · unfold fX6_put
        rw [c_isStore bi, bd_some, d3, if_neg bzt0, if_pos co.k2, co.r2_0, if_pos co.k3, co.l3, if_pos x6]
        simp only [s6]
        rw [if_pos w6'.1.1, c_fits w6' PB, bd_some, hf, if_pos bz_f, show (-5 : Int32) = i32 (-5) from rfl]
      · have f0 : Fr (fun r c => r = 220 ∧ c = 0) g (sI g 220 0 0) := Fr.I _ ⟨rfl, rfl⟩
        have Mg0 := Mg.sm K f0 (fun r c z => by omega)
        unfold fX7_put
        rw [if_pos Mg.1.1.k220, lt_def, m_isStore bi, bd_some, d3, if_neg bzt0, m_canPut Mg0.1.1 Mg0.1.2.2 PB, bd_some, hf, if_pos bz_f, show (-5 : Int32) = i32 (-5) from rfl]
    | true =>
      have w7 := c1.1.2.1 7 (by decide)
      have e7 : sh h 7 = hR h 2 1 := rfl
      have l12 : (aC S 6).length ≤ 12 := by
        unfold fitS at hf
        rw [Bool.and_eq_true, decide_eq_true_eq] at hf
        exact hf.1
      rw [c2 6 (by decide)] at w6
      obtain ⟨g2, cap2, E2, W2, T2⟩ := c_copyOf w7 w6 (fun r k k' z => c1.1.2.2.1 7 6 (by decide) (by decide) (by decide) r k k' z) (by omega)
      obtain ⟨g3, E3, C3, O3⟩ := c_act (B := fun _ _ => False) (slot := n) (act := 12) c1 c2 c3 (by omega) c5 T2.1 T2.2.1 (T2.2.2.mono (fun _ _ z => Or.inl z)) (fun r k z => z.elim) W2
      have M3 := M.out O3
      obtain ⟨g4, E4, J4, -, -, fin⟩ := m_told (act := 12) K M3
      have q := M3.1.1
      have q4 := J4.1
      obtain ⟨g5, E5, R5, F5⟩ := m_store (i := n) q4 J4.2.2 l12 hn
      obtain ⟨Mf, Ff⟩ := fin _ n (aC S 6) g5 F5 (fun r c z => by omega) (m_row J4 hn K.1.len.1 F5 R5)
      have c45 : hI g5 220 4 = i32 ((aC S 6).length : Int) := by rw [(F5.2.2 220 4 (by omega)).1]; exact J4.2.2.2
      have f0 : Fr (fun r c => r = 220 ∧ c = 0) g3 (sI g3 220 0 0) := Fr.I _ ⟨rfl, rfl⟩
      have Mg0 := M3.sm K f0 (fun r c z => by omega)
      obtain ⟨L, nn, hp⟩ := K.1.2.2
      have E3' : fX6_settle 2 12 (i32 (n : Int)) g2 = some (i32 ((aC S 6).length : Int), g3) := E3
      have E4' : fX7_remember 220 12 (sI g3 220 0 0) = some ((), g4) := E4
      have E2' : fX4_copyOf (hR h 2 1) (hR h 3 6) h = some ((), g2) := E2
      have k7 : kc h (hR h 2 1) = 4 := w7.1.1
      refine ⟨i32 ((aC S 6).length : Int), g3, _, actA S 12 n (aC S 6), ?_, ?_, K.act (K.1.store hn (fit_can hp hf)), C3.inn Ff, Mf⟩
      · unfold fX6_put
        rw [c_isStore bi, bd_some, d3, if_neg bzt0, if_pos co.k2, co.r2_0, if_pos co.k3, co.l3, if_pos x6]
        simp only [s6]
        rw [if_pos w6'.1.1, c_fits w6' PB, bd_some, hf, if_neg bzt0, co.r2_0, if_pos co.k3, co.l3, if_pos x6, if_pos k7, E2', bd_some, E3', bd_some]
      · unfold fX7_put
        rw [if_pos q.k220, lt_def, m_isStore bi, bd_some, d3, if_neg bzt0, m_canPut Mg0.1.1 Mg0.1.2.2 PB, bd_some, hf, if_neg bzt0, E4', bd_some, E5, bd_some, c45, m_tell (F5.mo q4), bd_some]
  · refine ref_cal K C M (a := -2) (by decide) ?_ (fun g q => ?_)
    · unfold fX6_put
      rw [c_isStore bi, bd_some, decide_eq_false h3, if_pos bz_f, if_pos co.k2, m2_32]
    · unfold fX7_put
      rw [if_pos q.k220, lt_def, m_isStore bi, bd_some, decide_eq_false h3, if_pos bz_f, m2_32]
end PU
