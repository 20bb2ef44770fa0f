/-! THE REFERENCE'S lay, whole; bring -/
section LY
variable {h : xH} {r1 r2 r3 r4 K k : Nat} {cur : Nat → List Kn}
def A3 (r1 k r c : Nat) : Prop := r = r1 ∧ 222 * k ≤ c ∧ c < 222 * k + 222
theorem ly_3 (hk : k < K) : ∀ (d n m : Nat) (h : xH), n + d = 222 → d < m → Mo h → Ly h r1 r2 r3 r4 K → (∀ i, i < n → hI h r1 (222 * k + i) = hI h 222 i) → ∃ h', fX7_lay_l3 m 220 r1 r2 r3 r4 (i32 (k : Int)) (i32 (n : Int)) h = lt (sI h' r2 k (hI h' 220 4)) (fun g4 => fX7_lay_l46 FU 220 r3 r4 (i32 (k : Int)) 0 g4) ∧ (∀ i, i < 222 → hI h' r1 (222 * k + i) = hI h' 222 i) ∧ Fr (A3 r1 k) h h' := by
  intro d
  induction d with
  | zero =>
    intro n m h hn hm q y L
    obtain ⟨m, rfl⟩ : ∃ k, m = k + 1 := ⟨m - 1, by omega⟩
    obtain ⟨-, y2, -, -, yK, -⟩ := y
    have en : n = 222 := by omega
    have x1 : ix (i32 (k : Int)) K := ix_i (by omega) (by omega) (by omega)
    have n1 : (i32 (k : Int)).toNatClampNeg = k := nat_i k (by omega)
    refine ⟨h, ?_, fun i hi => L i (by omega), Fr.rf h⟩
    show fX7_lay_b3 _ 220 _ _ _ _ _ _ h = _
    unfold fX7_lay_b3
    rw [if_pos (by rw [en]; decide), if_pos q.k220, if_pos y2.1, y2.2, if_pos x1]
    simp only [n1, lt_def]
  | succ d ih =>
    intro n m h hn hm q y L
    obtain ⟨m, rfl⟩ : ∃ k, m = k + 1 := ⟨m - 1, by omega⟩
    obtain ⟨y1, y2, y3, y4, yK, yb, yne⟩ := id y
    have x0 : ix (i32 (n : Int)) 222 := ix_i (by omega) (by omega) (by decide)
    have x1 : ix (i32 (222 * (k : Int) + (n : Int))) (222 * K) := ix_i (by omega) (by omega) (by omega)
    have n0 : (i32 (n : Int)).toNatClampNeg = n := nat_i n (by omega)
    have n1 : (i32 (222 * (k : Int) + (n : Int))).toNatClampNeg = 222 * k + n := by rw [i32_nat (by omega) (by omega)]; omega
    have F1 : Fr (A3 r1 k) h (sI h r1 (222 * k + n) (hI h 222 n)) := Fr.I _ ⟨rfl, by omega, by omega⟩
    obtain ⟨h2, E2, L2, F2⟩ := ih (n + 1) m (sI h r1 (222 * k + n) (hI h 222 n)) (by omega) (by omega) (F1.mo q) (y.fr F1) (fun i hi => by
      rw [hI_sI, hI_sI, if_neg (show ¬ (222 = r1 ∧ i = 222 * k + n) by omega)]
      by_cases c : i = n
      · rw [if_pos ⟨rfl, by omega⟩, c]
      · rw [if_neg (by omega)]; exact L i (by omega))
    refine ⟨h2, ?_, L2, F1.tr F2⟩
    show fX7_lay_b3 _ 220 _ _ _ _ _ _ h = _
    unfold fX7_lay_b3
    rw [if_neg (fun z => by have := (i32_le (a := 222) (b := (n : Int)) ⟨by decide, by decide⟩ ⟨by omega, by omega⟩).mp z; omega)]
    simp only [show (222 : Int32) = i32 222 from rfl, one32, i32_mul, i32_add, q.k220, q.r3, q.k222, q.l222, y1.1, y1.2, if_pos x0, if_pos x1, n0, n1, lt_def, kp1, reduceIte]
    exact E2
theorem m_lay (hk : k < K) (q : Mo h) (y : Ly h r1 r2 r3 r4 K) (J : MI0 h cur) (h12 : ∀ i, i < 6 → (cur i).length ≤ 12) (hl : (cur 6).length ≤ 1600) : ∃ h', fX7_lay 220 r1 r2 r3 r4 (i32 (k : Int)) h = some ((), h') ∧ Snp h' r1 r2 r3 r4 k cur ∧ Fr (ALy r1 r2 r3 r4 k) h h' := by
  obtain ⟨h1, E1, L1, F1⟩ := ly_3 hk 222 0 FU h (by omega) (by rw [FU_eq]; omega) q y (fun i hi => by omega)
  have yb := y.2.2.2.2.2.1
  have yn := y.2.2.2.2.2.2
  have y1 := y.fr F1
  have r34 : r3 ≠ r4 := fun z => by have a1 := y.2.2.1.1; have a2 := y.2.2.2.1.1; rw [z] at a1; omega
  have r13 : r1 ≠ r3 := fun z => by have a1 := y.1.1; have a2 := y.2.2.1.1; rw [z] at a1; omega
  have r23 : r2 ≠ r3 := fun z => by have a1 := y.2.1.1; have a2 := y.2.2.1.1; rw [z] at a1; omega
  have F2 : Fr (fun r c => r = r2 ∧ c = k) h1 (sI h1 r2 k (hI h1 220 4)) := Fr.I _ ⟨rfl, rfl⟩
  have kp1 : Kp h1 (cur 6) := by
    refine ⟨fun i kn e0 => ?_, by rw [(F1.2.2 220 4 (by unfold A3; omega)).1]; exact J.2.2.2⟩
    rw [(F1.2.2 223 _ (by unfold A3; omega)).2, (F1.2.2 223 _ (by unfold A3; omega)).2, (F1.2.2 223 _ (by unfold A3; omega)).2, (F1.2.2 223 _ (by unfold A3; omega)).2, (F1.2.2 224 _ (by unfold A3; omega)).1]
    exact J.2.2.1 i kn e0
  have kp2 : Kp (sI h1 r2 k (hI h1 220 4)) (cur 6) := by
    refine ⟨fun i kn e0 => ?_, by rw [(F2.2.2 220 4 (by omega)).1]; exact kp1.2⟩
    rw [(F2.2.2 223 _ (by omega)).2, (F2.2.2 223 _ (by omega)).2, (F2.2.2 223 _ (by omega)).2, (F2.2.2 223 _ (by omega)).2, (F2.2.2 224 _ (by omega)).1]
    exact kp1.1 i kn e0
  obtain ⟨h3, E3, L3, F3⟩ := ly_46 (ks := cur 6) hl hk (cur 6).length 0 FU (sI h1 r2 k (hI h1 220 4)) (by omega) (by rw [FU_eq]; omega) (F2.mo (F1.mo q)) (y1.fr F2) kp2 (fun m kn hm => by omega)
  have FF : Fr (ALy r1 r2 r3 r4 k) h h3 := ((F1.mono (fun r c z => Or.inl z)).tr (F2.mono (fun r c z => Or.inr (Or.inl z)))).tr (F3.mono (fun r c z => Or.inr (Or.inr z)))
  refine ⟨h3, ?_, ⟨fun i hi => ?_, ?_, fun n kn e0 => L3 n kn (List.getElem?_eq_some_iff.mp e0).1 e0⟩, FF⟩
  · unfold fX7_lay
    rw [lt_def]
    have E1' : fX7_lay_l3 FU 220 r1 r2 r3 r4 (i32 (k : Int)) 0 h = _ := E1
    rw [E1', lt_def]
    exact E3
  · have cell : ∀ c, c < 222 → hI h3 r1 (222 * k + c) = hI h 222 c := by
      intro c hc
      rw [(F3.2.2 r1 _ (by omega)).1, (F2.2.2 r1 _ (by omega)).1, L1 c hc, (F1.2.2 222 c (by unfold A3; omega)).1]
    have R := J.2.1 i hi
    have hl2 := h12 i hi
    refine ⟨?_, fun m hm => ⟨?_, ?_, ?_⟩⟩
    · rw [cell (37 * i) (by omega)]; exact R.1
    · rw [show 222 * k + 37 * i + 1 + 3 * m = 222 * k + (37 * i + 1 + 3 * m) by omega, cell _ (by omega)]; exact (R.2 m hm).1
    · rw [show 222 * k + 37 * i + 2 + 3 * m = 222 * k + (37 * i + 2 + 3 * m) by omega, cell _ (by omega)]; exact (R.2 m hm).2.1
    · rw [show 222 * k + 37 * i + 3 + 3 * m = 222 * k + (37 * i + 3 + 3 * m) by omega, cell _ (by omega)]; exact (R.2 m hm).2.2
  · rw [(F3.2.2 r2 k (by omega)).1, hI_sI, if_pos ⟨rfl, rfl⟩]
    exact kp1.2
/-! bring -/
def ABr (r c : Nat) : Prop := r = 222 ∨ r = 223 ∨ r = 224 ∨ (r = 220 ∧ c = 4)
theorem br_s58 (q : Mo h) (y : Ly h r1 r2 r3 r4 K) (hk : k < K) {n j : Nat} (hn : n < 1600) (hj : j < 4) (r46 : Nat → Nat → Nat → Int32 → Int32 → xH → Option (Unit × xH)) (m : Nat) : fX7_bring_l58 r46 (m + 1) 220 r3 r4 (i32 (k : Int)) (i32 (n : Int)) (i32 (j : Int)) h = fX7_bring_l58 r46 m 220 r3 r4 (i32 (k : Int)) (i32 (n : Int)) (i32 ((j + 1 : Nat) : Int)) (sJ h 223 (4 * n + j) (hJ h r3 (4 * (1600 * k + n) + j))) := by
  obtain ⟨-, -, y3, -, yK, -⟩ := y
  have x0 : ix (i32 (4 * (n : Int) + (j : Int))) 6400 := ix_i (by omega) (by omega) (by decide)
  have x1 : ix (i32 (4 * (1600 * (k : Int) + (n : Int)) + (j : Int))) (6400 * K) := ix_i (by omega) (by omega) (by omega)
  have n0 : (i32 (4 * (n : Int) + (j : Int))).toNatClampNeg = 4 * n + j := by rw [i32_nat (by omega) (by omega)]; omega
  have n1 : (i32 (4 * (1600 * (k : Int) + (n : Int)) + (j : Int))).toNatClampNeg = 4 * (1600 * k + n) + j := by rw [i32_nat (by omega) (by omega)]; omega
  show fX7_bring_b58 _ _ 220 _ _ _ _ _ h = _
  unfold fX7_bring_b58
  rw [if_neg (fun z => by have := (i32_le (a := 4) (b := (j : Int)) ⟨by decide, by decide⟩ ⟨by omega, by omega⟩).mp z; omega)]
  simp only [fou32, one32, show (1600 : Int32) = i32 1600 from rfl, i32_mul, i32_add, q.k220, q.r5, q.k223, q.l223, y3.1, y3.2, if_pos x0, if_pos x1, n0, n1, lt_def, kp1, reduceIte]
theorem br_e58 (q : Mo h) (y : Ly h r1 r2 r3 r4 K) (hk : k < K) {n : Nat} {b : Bool} (hn : n < 1600) (hb : hI h r4 (1600 * k + n) = bz b) (r46 : Nat → Nat → Nat → Int32 → Int32 → xH → Option (Unit × xH)) (m : Nat) : fX7_bring_l58 r46 (m + 1) 220 r3 r4 (i32 (k : Int)) (i32 (n : Int)) (i32 ((4 : Nat) : Int)) h = r46 220 r3 r4 (i32 (k : Int)) (i32 ((n + 1 : Nat) : Int)) (sI h 224 n (bz b)) := by
  obtain ⟨-, -, -, y4, yK, -⟩ := y
  have x0 : ix (i32 (n : Int)) 1600 := ix_i (by omega) (by omega) (by decide)
  have x1 : ix (i32 (1600 * (k : Int) + (n : Int))) (1600 * K) := ix_i (by omega) (by omega) (by omega)
  have n0 : (i32 (n : Int)).toNatClampNeg = n := nat_i n (by omega)
  have n1 : (i32 (1600 * (k : Int) + (n : Int))).toNatClampNeg = 1600 * k + n := by rw [i32_nat (by omega) (by omega)]; omega
  show fX7_bring_b58 _ _ 220 _ _ _ _ _ h = _
  unfold fX7_bring_b58
  rw [if_pos (by decide)]
  simp only [one32, show (1600 : Int32) = i32 1600 from rfl, i32_mul, i32_add, q.k220, q.r6, q.k224, q.l224, y4.1, y4.2, if_pos x0, if_pos x1, n0, n1, hb, if_pos (show bz b = 0 ∨ bz b = i32 1 from bz_01 b), lt_def, kp1, reduceIte]
def Abn (n r c : Nat) : Prop := (r = 223 ∧ 4 * n ≤ c ∧ c < 4 * n + 4) ∨ (r = 224 ∧ c = n)
theorem br_n58 (q : Mo h) (y : Ly h r1 r2 r3 r4 K) (hk : k < K) {n : Nat} {b : Bool} (hn : n < 1600) (hb : hI h r4 (1600 * k + n) = bz b) (r46 : Nat → Nat → Nat → Int32 → Int32 → xH → Option (Unit × xH)) : ∃ h', fX7_bring_l58 r46 FU 220 r3 r4 (i32 (k : Int)) (i32 (n : Int)) 0 h = r46 220 r3 r4 (i32 (k : Int)) (i32 ((n + 1 : Nat) : Int)) h' ∧ (∀ j, j < 4 → hJ h' 223 (4 * n + j) = hJ h r3 (4 * (1600 * k + n) + j)) ∧ hI h' 224 n = bz b ∧ Fr (Abn n) h h' := by
  have yb := y.2.2.2.2.2.1
  have st : ∀ (g : xH) (v : Int64) (j : Nat), j < 4 → Fr (Abn n) g (sJ g 223 (4 * n + j) v) := fun g v j hj => Fr.J _ (Or.inl ⟨rfl, by omega, by omega⟩)
  have ex : ∃ g1, g1 = sJ h 223 (4 * n + 0) (hJ h r3 (4 * (1600 * k + n) + 0)) := ⟨_, rfl⟩
  obtain ⟨g1, e1⟩ := ex
  have ex : ∃ g2, g2 = sJ g1 223 (4 * n + 1) (hJ g1 r3 (4 * (1600 * k + n) + 1)) := ⟨_, rfl⟩
  obtain ⟨g2, e2⟩ := ex
  have ex : ∃ g3, g3 = sJ g2 223 (4 * n + 2) (hJ g2 r3 (4 * (1600 * k + n) + 2)) := ⟨_, rfl⟩
  obtain ⟨g3, e3⟩ := ex
  have ex : ∃ g4, g4 = sJ g3 223 (4 * n + 3) (hJ g3 r3 (4 * (1600 * k + n) + 3)) := ⟨_, rfl⟩
  obtain ⟨g4, e4⟩ := ex
  have F1 : Fr (Abn n) h g1 := by rw [e1]; exact st _ _ 0 (by decide)
  have F2 : Fr (Abn n) h g2 := F1.tr (by rw [e2]; exact st _ _ 1 (by decide))
  have F3 : Fr (Abn n) h g3 := F2.tr (by rw [e3]; exact st _ _ 2 (by decide))
  have F4 : Fr (Abn n) h g4 := F3.tr (by rw [e4]; exact st _ _ 3 (by decide))
  have na : ∀ c, ¬ Abn n r3 c := fun c => by unfold Abn; omega
  have nb : ∀ c, ¬ Abn n r4 c := fun c => by unfold Abn; omega
  have b4 : hI g4 r4 (1600 * k + n) = bz b := by rw [(F4.2.2 r4 _ (nb _)).1]; exact hb
  refine ⟨sI g4 224 n (bz b), ?_, fun j hj => ?_, by rw [hI_sI, if_pos ⟨rfl, rfl⟩], F4.tr (Fr.I _ (Or.inr ⟨rfl, rfl⟩))⟩
  · have s0 := br_s58 q y hk hn (j := 0) (by decide) r46 99999
    have s1 := br_s58 (F1.mo q) (y.fr F1) hk hn (j := 1) (by decide) r46 99998
    have s2 := br_s58 (F2.mo q) (y.fr F2) hk hn (j := 2) (by decide) r46 99997
    have s3 := br_s58 (F3.mo q) (y.fr F3) hk hn (j := 3) (by decide) r46 99996
    have s4 := br_e58 (F4.mo q) (y.fr F4) hk hn b4 r46 99995
    rw [← e1] at s0
    rw [← e2] at s1
    rw [← e3] at s2
    rw [← e4] at s3
    exact s0.trans (s1.trans (s2.trans (s3.trans s4)))
  · rw [hJ_sI]
    have o1 : ∀ c, hJ g1 r3 c = hJ h r3 c := fun c => (F1.2.2 r3 c (na c)).2
    have o2 : ∀ c, hJ g2 r3 c = hJ h r3 c := fun c => (F2.2.2 r3 c (na c)).2
    have o3 : ∀ c, hJ g3 r3 c = hJ h r3 c := fun c => (F3.2.2 r3 c (na c)).2
    rcases (show j = 0 ∨ j = 1 ∨ j = 2 ∨ j = 3 by omega) with ej | ej | ej | ej <;> rw [ej]
    · rw [e4, hJ_sJ, if_neg (by omega), e3, hJ_sJ, if_neg (by omega), e2, hJ_sJ, if_neg (by omega), e1, hJ_sJ, if_pos ⟨rfl, rfl⟩]
    · rw [e4, hJ_sJ, if_neg (by omega), e3, hJ_sJ, if_neg (by omega), e2, hJ_sJ, if_pos ⟨rfl, rfl⟩, o1]
    · rw [e4, hJ_sJ, if_neg (by omega), e3, hJ_sJ, if_pos ⟨rfl, rfl⟩, o2]
    · rw [e4, hJ_sJ, if_pos ⟨rfl, rfl⟩, o3]
def BpI (h : xH) (n : Nat) (ks : List Kn) : Prop := ∀ m kn, m < n → ks[m]? = some kn → hJ h 223 (4 * m) = i64 kn.1.num ∧ hJ h 223 (4 * m + 1) = i64 kn.1.den ∧ hJ h 223 (4 * m + 2) = i64 kn.2.1.num ∧ hJ h 223 (4 * m + 3) = i64 kn.2.1.den ∧ hI h 224 m = bz kn.2.2
theorem br_46 {ks : List Kn} (hl : ks.length ≤ 1600) (hk : k < K) : ∀ (d n m : Nat) (h : xH), n + d = ks.length → d < m → Mo h → Ly h r1 r2 r3 r4 K → hI h 220 4 = i32 (ks.length : Int) → LpI h h r3 r4 k ks.length ks → BpI h n ks → ∃ h', fX7_bring_l46 m 220 r3 r4 (i32 (k : Int)) (i32 (n : Int)) h = some ((), h') ∧ Kp h' ks ∧ Fr (fun r _ => r = 223 ∨ r = 224) h h' := by
  intro d
  induction d with
  | zero =>
    intro n m h hn hm q y c4 L B
    obtain ⟨m, rfl⟩ : ∃ k, m = k + 1 := ⟨m - 1, by omega⟩
    have en : n = ks.length := by omega
    refine ⟨h, ?_, ⟨fun i kn e0 => B i kn (by rw [en]; exact (List.getElem?_eq_some_iff.mp e0).1) e0, c4⟩, Fr.rf h⟩
    show fX7_bring_b46 _ 220 _ _ _ _ h = _
    unfold fX7_bring_b46
    rw [if_pos q.k220, c4, if_pos (by rw [en]; exact Int32.le_refl _)]
  | succ d ih =>
    intro n m h hn hm q y c4 L B
    obtain ⟨m, rfl⟩ : ∃ k, m = k + 1 := ⟨m - 1, by omega⟩
    have hnl : n < ks.length := by omega
    have hg : ks[n]? = some ks[n] := List.getElem?_eq_getElem hnl
    have v := L n _ hnl hg
    obtain ⟨h1, E1, J1, I1, F1⟩ := br_n58 q y hk (n := n) (by omega) v.2.2.2.2 (fX7_bring_l46 m)
    have yb := y.2.2.2.2.2.1
    have na : ∀ r c, 224 < r → ¬ Abn n r c := fun r c hr => by unfold Abn; omega
    have L1 : LpI h1 h1 r3 r4 k ks.length ks := by
      intro i kn hi e0
      rw [(F1.2.2 r3 _ (na _ _ (by omega))).2, (F1.2.2 r3 _ (na _ _ (by omega))).2, (F1.2.2 r3 _ (na _ _ (by omega))).2, (F1.2.2 r3 _ (na _ _ (by omega))).2, (F1.2.2 r4 _ (na _ _ (by omega))).1]
      exact L i kn hi e0
    have B1 : BpI h1 (n + 1) ks := by
      intro i kn hi e0
      by_cases c : i = n
      · rw [c] at e0 ⊢
        rw [hg] at e0
        have ek := Option.some.inj e0
        rw [← ek]
        have j0 := J1 0 (by decide)
        rw [Nat.add_zero, Nat.add_zero] at j0
        refine ⟨by rw [j0]; exact v.1, by rw [J1 1 (by decide)]; exact v.2.1, by rw [J1 2 (by decide)]; exact v.2.2.1, by rw [J1 3 (by decide)]; exact v.2.2.2.1, I1⟩
      · have w := B i kn (by omega) e0
        rw [(F1.2.2 223 _ (by unfold Abn; omega)).2, (F1.2.2 223 _ (by unfold Abn; omega)).2, (F1.2.2 223 _ (by unfold Abn; omega)).2, (F1.2.2 223 _ (by unfold Abn; omega)).2, (F1.2.2 224 _ (by unfold Abn; omega)).1]
        exact w
    obtain ⟨h2, E2, L2, F2⟩ := ih (n + 1) m h1 (by omega) (by omega) (F1.mo q) (y.fr F1) (by rw [(F1.2.2 220 4 (by unfold Abn; omega)).1]; exact c4) L1 B1
    refine ⟨h2, ?_, L2, (F1.mono (fun r c z => by unfold Abn at z; omega)).tr F2⟩
    show fX7_bring_b46 _ 220 _ _ _ _ h = _
    unfold fX7_bring_b46
    rw [if_pos q.k220, c4, if_neg (nle32 hnl (by omega)), lt_def]
    exact E1.trans E2
theorem br_3 (hk : k < K) : ∀ (d n m : Nat) (h : xH), n + d = 222 → d < m → Mo h → Ly h r1 r2 r3 r4 K → (∀ i, i < n → hI h 222 i = hI h r1 (222 * k + i)) → ∃ h', fX7_bring_l3 m 220 r1 r2 r3 r4 (i32 (k : Int)) (i32 (n : Int)) h = lt (sI h' 220 4 (hI h' r2 k)) (fun g4 => fX7_bring_l46 FU 220 r3 r4 (i32 (k : Int)) 0 g4) ∧ (∀ i, i < 222 → hI h' 222 i = hI h' r1 (222 * k + i)) ∧ Fr (fun r _ => r = 222) h h' := by
  intro d
  induction d with
  | zero =>
    intro n m h hn hm q y L
    obtain ⟨m, rfl⟩ : ∃ k, m = k + 1 := ⟨m - 1, by omega⟩
    obtain ⟨-, y2, -, -, yK, -⟩ := y
    have en : n = 222 := by omega
    have x1 : ix (i32 (k : Int)) K := ix_i (by omega) (by omega) (by omega)
    have n1 : (i32 (k : Int)).toNatClampNeg = k := nat_i k (by omega)
    refine ⟨h, ?_, fun i hi => L i (by omega), Fr.rf h⟩
    show fX7_bring_b3 _ 220 _ _ _ _ _ _ h = _
    unfold fX7_bring_b3
    rw [if_pos (by rw [en]; decide), if_pos y2.1, y2.2, if_pos x1, if_pos q.k220]
    simp only [n1, lt_def]
  | succ d ih =>
    intro n m h hn hm q y L
    obtain ⟨m, rfl⟩ : ∃ k, m = k + 1 := ⟨m - 1, by omega⟩
    obtain ⟨y1, y2, y3, y4, yK, yb, yne⟩ := id y
    have x0 : ix (i32 (n : Int)) 222 := ix_i (by omega) (by omega) (by decide)
    have x1 : ix (i32 (222 * (k : Int) + (n : Int))) (222 * K) := ix_i (by omega) (by omega) (by omega)
    have n0 : (i32 (n : Int)).toNatClampNeg = n := nat_i n (by omega)
    have n1 : (i32 (222 * (k : Int) + (n : Int))).toNatClampNeg = 222 * k + n := by rw [i32_nat (by omega) (by omega)]; omega
    have F1 : Fr (fun r _ => r = 222) h (sI h 222 n (hI h r1 (222 * k + n))) := Fr.I _ rfl
    obtain ⟨h2, E2, L2, F2⟩ := ih (n + 1) m (sI h 222 n (hI h r1 (222 * k + n))) (by omega) (by omega) (F1.mo q) (y.fr F1) (fun i hi => by
      rw [hI_sI, hI_sI, if_neg (show ¬ (r1 = 222 ∧ 222 * k + i = n) by omega)]
      by_cases c : i = n
      · rw [if_pos ⟨rfl, c⟩, c]
      · rw [if_neg (by omega)]; exact L i (by omega))
    refine ⟨h2, ?_, L2, F1.tr F2⟩
    show fX7_bring_b3 _ 220 _ _ _ _ _ _ h = _
    unfold fX7_bring_b3
    rw [if_neg (fun z => by have := (i32_le (a := 222) (b := (n : Int)) ⟨by decide, by decide⟩ ⟨by omega, by omega⟩).mp z; omega)]
    simp only [show (222 : Int32) = i32 222 from rfl, one32, i32_mul, i32_add, q.k220, q.r3, q.k222, q.l222, y1.1, y1.2, if_pos x0, if_pos x1, n0, n1, lt_def, kp1, reduceIte]
    exact E2
theorem m_bring {f : Nat → List Kn} (hk : k < K) (q : Mo h) (y : Ly h r1 r2 r3 r4 K) (S : Snp h r1 r2 r3 r4 k f) (h12 : ∀ i, i < 6 → (f i).length ≤ 12) (hl : (f 6).length ≤ 1600) : ∃ h', fX7_bring 220 r1 r2 r3 r4 (i32 (k : Int)) h = some ((), h') ∧ MI0 h' f ∧ Fr ABr h h' := by
  obtain ⟨h1, E1, L1, F1⟩ := br_3 hk 222 0 FU h (by omega) (by rw [FU_eq]; omega) q y (fun i hi => by omega)
  have yb := y.2.2.2.2.2.1
  have F2 : Fr (fun r c => r = 220 ∧ c = 4) h1 (sI h1 220 4 (hI h1 r2 k)) := Fr.I _ ⟨rfl, rfl⟩
  have o1 : ∀ r c, 224 < r → hI h1 r c = hI h r c ∧ hJ h1 r c = hJ h r c := fun r c hr => F1.2.2 r c (by omega)
  have L2 : LpI (sI h1 220 4 (hI h1 r2 k)) (sI h1 220 4 (hI h1 r2 k)) r3 r4 k (f 6).length (f 6) := by
    intro i kn hi e0
    rw [(F2.2.2 r3 _ (by omega)).2, (F2.2.2 r3 _ (by omega)).2, (F2.2.2 r3 _ (by omega)).2, (F2.2.2 r3 _ (by omega)).2, (F2.2.2 r4 _ (by omega)).1, (o1 r3 _ (by omega)).2, (o1 r3 _ (by omega)).2, (o1 r3 _ (by omega)).2, (o1 r3 _ (by omega)).2, (o1 r4 _ (by omega)).1]
    exact S.2.2 i kn e0
  obtain ⟨h3, E3, K3, F3⟩ := br_46 (ks := f 6) hl hk (f 6).length 0 FU (sI h1 220 4 (hI h1 r2 k)) (by omega) (by rw [FU_eq]; omega) (F2.mo (F1.mo q)) ((y.fr F1).fr F2) (by rw [hI_sI, if_pos ⟨rfl, rfl⟩, (o1 r2 k (by omega)).1]; exact S.2.1) L2 (fun m kn hm => by omega)
  have FF : Fr ABr h h3 := ((F1.mono (fun r c z => Or.inl z)).tr (F2.mono (fun r c z => Or.inr (Or.inr (Or.inr z))))).tr (F3.mono (fun r c z => by rcases z with z | z; exact Or.inr (Or.inl z); exact Or.inr (Or.inr (Or.inl z))))
  refine ⟨h3, ?_, ⟨FF.mo q, fun i hi => ?_, K3⟩, FF⟩
  · unfold fX7_bring
    rw [lt_def]
    have E1' : fX7_bring_l3 FU 220 r1 r2 r3 r4 (i32 (k : Int)) 0 h = _ := E1
    rw [E1', lt_def]
    exact E3
  · have cell : ∀ c, c < 222 → hI h3 222 c = hI h r1 (222 * k + c) := by
      intro c hc
      rw [(F3.2.2 222 _ (by omega)).1, (F2.2.2 222 _ (by omega)).1, L1 c hc, (o1 r1 _ (by omega)).1]
    have R := S.1 i hi
    have hl2 := h12 i hi
    refine ⟨?_, fun m hm => ⟨?_, ?_, ?_⟩⟩
    · rw [cell (37 * i) (by omega)]; exact R.1
    · rw [cell _ (by omega), show 222 * k + (37 * i + 1 + 3 * m) = 222 * k + 37 * i + 1 + 3 * m by omega]; exact (R.2 m hm).1
    · rw [cell _ (by omega), show 222 * k + (37 * i + 2 + 3 * m) = 222 * k + 37 * i + 2 + 3 * m by omega]; exact (R.2 m hm).2.1
    · rw [cell _ (by omega), show 222 * k + (37 * i + 3 + 3 * m) = 222 * k + 37 * i + 3 + 3 * m by omega]; exact (R.2 m hm).2.2
end LY
