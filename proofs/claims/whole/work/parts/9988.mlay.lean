/-! THE REFERENCE'S lay: the state laid by -/
def Ly (h : xH) (r1 r2 r3 r4 K : Nat) : Prop := (kc h r1 = 8 ∧ kl h r1 = 222 * K) ∧ (kc h r2 = 8 ∧ kl h r2 = K) ∧ (kc h r3 = 9 ∧ kl h r3 = 6400 * K) ∧ (kc h r4 = 10 ∧ kl h r4 = 1600 * K) ∧ K ≤ 8 ∧ (224 < r1 ∧ 224 < r2 ∧ 224 < r3 ∧ 224 < r4) ∧ r1 ≠ r2 ∧ r1 ≠ r4 ∧ r2 ≠ r4
theorem Mo.ly1 {h : xH} (q : Mo h) : Ly h 225 226 227 228 8 := ⟨⟨q.k225, q.l225⟩, ⟨q.k226, q.l226⟩, ⟨q.k227, q.l227⟩, ⟨q.k228, q.l228⟩, by decide, by decide, by decide, by decide, by decide⟩
theorem Mo.ly2 {h : xH} (q : Mo h) : Ly h 230 231 232 233 2 := ⟨⟨q.k230, q.l230⟩, ⟨q.k231, q.l231⟩, ⟨q.k232, q.l232⟩, ⟨q.k233, q.l233⟩, by decide, by decide, by decide, by decide, by decide⟩
theorem Ly.fr {A : Nat → Nat → Prop} {h h' : xH} {r1 r2 r3 r4 K : Nat} (y : Ly h r1 r2 r3 r4 K) (f : Fr A h h') : Ly h' r1 r2 r3 r4 K := by
  unfold Ly
  rw [f.ekc, f.ekc, f.ekc, f.ekc, f.ekl, f.ekl, f.ekl, f.ekl]
  exact y
def RwA (h : xH) (r b : Nat) (ks : List Kn) : Prop := hI h r b = i32 ks.length ∧ ∀ k, k < ks.length → hI h r (b + 1 + 3 * k) = i32 (kx ks k) ∧ hI h r (b + 2 + 3 * k) = i32 (ky ks k) ∧ hI h r (b + 3 + 3 * k) = bz (kg ks k)
def Snp (h : xH) (r1 r2 r3 r4 k : Nat) (f : Nat → List Kn) : Prop := (∀ i, i < 6 → RwA h r1 (222 * k + 37 * i) (f i)) ∧ hI h r2 k = i32 ((f 6).length : Int) ∧ ∀ n kn, (f 6)[n]? = some kn → hJ h r3 (4 * (1600 * k + n)) = i64 kn.1.num ∧ hJ h r3 (4 * (1600 * k + n) + 1) = i64 kn.1.den ∧ hJ h r3 (4 * (1600 * k + n) + 2) = i64 kn.2.1.num ∧ hJ h r3 (4 * (1600 * k + n) + 3) = i64 kn.2.1.den ∧ hI h r4 (1600 * k + n) = bz kn.2.2
def ALy (r1 r2 r3 r4 k r c : Nat) : Prop := (r = r1 ∧ 222 * k ≤ c ∧ c < 222 * k + 222) ∨ (r = r2 ∧ c = k) ∨ (r = r3 ∧ 6400 * k ≤ c ∧ c < 6400 * k + 6400) ∨ (r = r4 ∧ 1600 * k ≤ c ∧ c < 1600 * k + 1600)
section LY
variable {h : xH} {r1 r2 r3 r4 K k : Nat}
theorem ly_s58 (q : Mo h) (y : Ly h r1 r2 r3 r4 K) (hk : k < K) {n j : Nat} (hn : n < 1600) (hj : j < 4) (r46 : Nat → Nat → Nat → Int32 → Int32 → xH → Option (Unit × xH)) (m : Nat) : fX7_lay_l58 r46 (m + 1) 220 r3 r4 (i32 (k : Int)) (i32 (n : Int)) (i32 (j : Int)) h = fX7_lay_l58 r46 m 220 r3 r4 (i32 (k : Int)) (i32 (n : Int)) (i32 ((j + 1 : Nat) : Int)) (sJ h r3 (4 * (1600 * k + n) + j) (hJ h 223 (4 * n + j))) := by
  obtain ⟨-, -, y3, -, yK, -⟩ := y
  have x0 : ix (i32 (4 * (n : Int) + (j : Int))) 6400 := ix_i (by omega) (by omega) (by decide)
  have x1 : ix (i32 (4 * (1600 * (k : Int) + (n : Int)) + (j : Int))) (6400 * K) := ix_i (by omega) (by omega) (by omega)
  have n0 : (i32 (4 * (n : Int) + (j : Int))).toNatClampNeg = 4 * n + j := by rw [i32_nat (by omega) (by omega)]; omega
  have n1 : (i32 (4 * (1600 * (k : Int) + (n : Int)) + (j : Int))).toNatClampNeg = 4 * (1600 * k + n) + j := by rw [i32_nat (by omega) (by omega)]; omega
  show fX7_lay_b58 _ _ 220 _ _ _ _ _ h = _
  unfold fX7_lay_b58
  rw [if_neg (fun z => by have := (i32_le (a := 4) (b := (j : Int)) ⟨by decide, by decide⟩ ⟨by omega, by omega⟩).mp z; omega)]
  simp only [fou32, one32, show (1600 : Int32) = i32 1600 from rfl, i32_mul, i32_add, q.k220, q.r5, q.k223, q.l223, y3.1, y3.2, if_pos x0, if_pos x1, n0, n1, lt_def, kp1, reduceIte]
theorem ly_e58 (q : Mo h) (y : Ly h r1 r2 r3 r4 K) (hk : k < K) {n : Nat} {b : Bool} (hn : n < 1600) (hb : hI h 224 n = bz b) (r46 : Nat → Nat → Nat → Int32 → Int32 → xH → Option (Unit × xH)) (m : Nat) : fX7_lay_l58 r46 (m + 1) 220 r3 r4 (i32 (k : Int)) (i32 (n : Int)) (i32 ((4 : Nat) : Int)) h = r46 220 r3 r4 (i32 (k : Int)) (i32 ((n + 1 : Nat) : Int)) (sI h r4 (1600 * k + n) (bz b)) := by
  obtain ⟨-, -, -, y4, yK, -⟩ := y
  have x0 : ix (i32 (n : Int)) 1600 := ix_i (by omega) (by omega) (by decide)
  have x1 : ix (i32 (1600 * (k : Int) + (n : Int))) (1600 * K) := ix_i (by omega) (by omega) (by omega)
  have n0 : (i32 (n : Int)).toNatClampNeg = n := nat_i n (by omega)
  have n1 : (i32 (1600 * (k : Int) + (n : Int))).toNatClampNeg = 1600 * k + n := by rw [i32_nat (by omega) (by omega)]; omega
  show fX7_lay_b58 _ _ 220 _ _ _ _ _ h = _
  unfold fX7_lay_b58
  rw [if_pos (by decide)]
  simp only [one32, show (1600 : Int32) = i32 1600 from rfl, i32_mul, i32_add, q.k220, q.r6, q.k224, q.l224, y4.1, y4.2, if_pos x0, if_pos x1, n0, n1, hb, if_pos (show bz b = 0 ∨ bz b = i32 1 from bz_01 b), lt_def, kp1, reduceIte]
theorem ly_n58 (q : Mo h) (y : Ly h r1 r2 r3 r4 K) (hk : k < K) {n : Nat} {b : Bool} (hn : n < 1600) (hb : hI h 224 n = bz b) (r46 : Nat → Nat → Nat → Int32 → Int32 → xH → Option (Unit × xH)) : ∃ h', fX7_lay_l58 r46 FU 220 r3 r4 (i32 (k : Int)) (i32 (n : Int)) 0 h = r46 220 r3 r4 (i32 (k : Int)) (i32 ((n + 1 : Nat) : Int)) h' ∧ (∀ j, j < 4 → hJ h' r3 (4 * (1600 * k + n) + j) = hJ h 223 (4 * n + j)) ∧ hI h' r4 (1600 * k + n) = bz b ∧ Fr (fun r c => (r = r3 ∧ 4 * (1600 * k + n) ≤ c ∧ c < 4 * (1600 * k + n) + 4) ∨ (r = r4 ∧ c = 1600 * k + n)) h h' := by
  have y0 := y
  have r3n : r3 ≠ 223 := by have := y.2.2.2.2.2.1; omega
  have st : ∀ (g : xH) (v : Int64) (j : Nat), j < 4 → Fr (fun r c => (r = r3 ∧ 4 * (1600 * k + n) ≤ c ∧ c < 4 * (1600 * k + n) + 4) ∨ (r = r4 ∧ c = 1600 * k + n)) g (sJ g r3 (4 * (1600 * k + n) + j) v) := fun g v j hj => Fr.J _ (Or.inl ⟨rfl, by omega, by omega⟩)
  have ex : ∃ g1, g1 = sJ h r3 (4 * (1600 * k + n) + 0) (hJ h 223 (4 * n + 0)) := ⟨_, rfl⟩
  obtain ⟨g1, e1⟩ := ex
  have ex : ∃ g2, g2 = sJ g1 r3 (4 * (1600 * k + n) + 1) (hJ g1 223 (4 * n + 1)) := ⟨_, rfl⟩
  obtain ⟨g2, e2⟩ := ex
  have ex : ∃ g3, g3 = sJ g2 r3 (4 * (1600 * k + n) + 2) (hJ g2 223 (4 * n + 2)) := ⟨_, rfl⟩
  obtain ⟨g3, e3⟩ := ex
  have ex : ∃ g4, g4 = sJ g3 r3 (4 * (1600 * k + n) + 3) (hJ g3 223 (4 * n + 3)) := ⟨_, rfl⟩
  obtain ⟨g4, e4⟩ := ex
  have F1 : Fr (fun r c => (r = r3 ∧ 4 * (1600 * k + n) ≤ c ∧ c < 4 * (1600 * k + n) + 4) ∨ (r = r4 ∧ c = 1600 * k + n)) h g1 := by rw [e1]; exact st _ _ 0 (by decide)
  have F2 : Fr (fun r c => (r = r3 ∧ 4 * (1600 * k + n) ≤ c ∧ c < 4 * (1600 * k + n) + 4) ∨ (r = r4 ∧ c = 1600 * k + n)) h g2 := F1.tr (by rw [e2]; exact st _ _ 1 (by decide))
  have F3 : Fr (fun r c => (r = r3 ∧ 4 * (1600 * k + n) ≤ c ∧ c < 4 * (1600 * k + n) + 4) ∨ (r = r4 ∧ c = 1600 * k + n)) h g3 := F2.tr (by rw [e3]; exact st _ _ 2 (by decide))
  have F4 : Fr (fun r c => (r = r3 ∧ 4 * (1600 * k + n) ≤ c ∧ c < 4 * (1600 * k + n) + 4) ∨ (r = r4 ∧ c = 1600 * k + n)) h g4 := F3.tr (by rw [e4]; exact st _ _ 3 (by decide))
  have na : ∀ c, ¬ ((223 = r3 ∧ 4 * (1600 * k + n) ≤ c ∧ c < 4 * (1600 * k + n) + 4) ∨ (223 = r4 ∧ c = 1600 * k + n)) := fun c z => by have := y.2.2.2.2.2.1; omega
  have nb : ∀ c, ¬ ((224 = r3 ∧ 4 * (1600 * k + n) ≤ c ∧ c < 4 * (1600 * k + n) + 4) ∨ (224 = r4 ∧ c = 1600 * k + n)) := fun c z => by have := y.2.2.2.2.2.1; omega
  have b4 : hI g4 224 n = bz b := by rw [(F4.2.2 224 n (nb n)).1]; exact hb
  refine ⟨sI g4 r4 (1600 * k + n) (bz b), ?_, fun j hj => ?_, by rw [hI_sI, if_pos ⟨rfl, rfl⟩], F4.tr (Fr.I _ (Or.inr ⟨rfl, rfl⟩))⟩
  · have s0 := ly_s58 q y hk hn (j := 0) (by decide) r46 99999
    have s1 := ly_s58 (F1.mo q) (y.fr F1) hk hn (j := 1) (by decide) r46 99998
    have s2 := ly_s58 (F2.mo q) (y.fr F2) hk hn (j := 2) (by decide) r46 99997
    have s3 := ly_s58 (F3.mo q) (y.fr F3) hk hn (j := 3) (by decide) r46 99996
    have s4 := ly_e58 (F4.mo q) (y.fr F4) hk hn b4 r46 99995
    rw [← e1] at s0
    rw [← e2] at s1
    rw [← e3] at s2
    rw [← e4] at s3
    exact s0.trans (s1.trans (s2.trans (s3.trans s4)))
  · rw [hJ_sI]
    have o1 : ∀ c, hJ g1 223 c = hJ h 223 c := fun c => (F1.2.2 223 c (na c)).2
    have o2 : ∀ c, hJ g2 223 c = hJ h 223 c := fun c => (F2.2.2 223 c (na c)).2
    have o3 : ∀ c, hJ g3 223 c = hJ h 223 c := fun c => (F3.2.2 223 c (na c)).2
    rcases (show j = 0 ∨ j = 1 ∨ j = 2 ∨ j = 3 by omega) with ej | ej | ej | ej <;> rw [ej]
    · rw [e4, hJ_sJ, if_neg (by omega), e3, hJ_sJ, if_neg (by omega), e2, hJ_sJ, if_neg (by omega), e1, hJ_sJ, if_pos ⟨rfl, rfl⟩]
    · rw [e4, hJ_sJ, if_neg (by omega), e3, hJ_sJ, if_neg (by omega), e2, hJ_sJ, if_pos ⟨rfl, rfl⟩, o1]
    · rw [e4, hJ_sJ, if_neg (by omega), e3, hJ_sJ, if_pos ⟨rfl, rfl⟩, o2]
    · rw [e4, hJ_sJ, if_pos ⟨rfl, rfl⟩, o3]
def LpI (h h0 : xH) (r3 r4 k n : Nat) (ks : List Kn) : Prop := ∀ m kn, m < n → ks[m]? = some kn → hJ h r3 (4 * (1600 * k + m)) = i64 kn.1.num ∧ hJ h r3 (4 * (1600 * k + m) + 1) = i64 kn.1.den ∧ hJ h r3 (4 * (1600 * k + m) + 2) = i64 kn.2.1.num ∧ hJ h r3 (4 * (1600 * k + m) + 3) = i64 kn.2.1.den ∧ hI h r4 (1600 * k + m) = bz kn.2.2
theorem ly_46 {ks : List Kn} (hl : ks.length ≤ 1600) (hk : k < K) : ∀ (d n m : Nat) (h : xH), n + d = ks.length → d < m → Mo h → Ly h r1 r2 r3 r4 K → Kp h ks → LpI h h r3 r4 k n ks → ∃ h', fX7_lay_l46 m 220 r3 r4 (i32 (k : Int)) (i32 (n : Int)) h = some ((), h') ∧ LpI h' h' r3 r4 k ks.length ks ∧ Fr (fun r c => (r = r3 ∧ 6400 * k ≤ c ∧ c < 6400 * k + 6400) ∨ (r = r4 ∧ 1600 * k ≤ c ∧ c < 1600 * k + 1600)) h h' := by
  intro d
  induction d with
  | zero =>
    intro n m h hn hm q y kp L
    obtain ⟨m, rfl⟩ : ∃ k, m = k + 1 := ⟨m - 1, by omega⟩
    refine ⟨h, ?_, by rw [← show n = ks.length by omega]; exact L, Fr.rf h⟩
    show fX7_lay_b46 _ 220 _ _ _ _ h = _
    unfold fX7_lay_b46
    rw [if_pos q.k220, kp.2, if_pos (by rw [show n = ks.length by omega]; exact Int32.le_refl _)]
  | succ d ih =>
    intro n m h hn hm q y kp L
    obtain ⟨m, rfl⟩ : ∃ k, m = k + 1 := ⟨m - 1, by omega⟩
    have hnl : n < ks.length := by omega
    have hg : ks[n]? = some ks[n] := List.getElem?_eq_getElem hnl
    have v := kp.1 n _ hg
    obtain ⟨h1, E1, J1, I1, F1⟩ := ly_n58 q y hk (n := n) (by omega) v.2.2.2.2 (fX7_lay_l46 m)
    have yb := y.2.2.2.2.2.1
    have r34 : r3 ≠ r4 := fun z => by have a1 := y.2.2.1.1; have a2 := y.2.2.2.1.1; rw [z] at a1; omega
    have kp1 : Kp h1 ks := by
      refine ⟨fun i kn e0 => ?_, by rw [(F1.2.2 220 4 (by omega)).1]; exact kp.2⟩
      rw [(F1.2.2 223 _ (by omega)).2, (F1.2.2 223 _ (by omega)).2, (F1.2.2 223 _ (by omega)).2, (F1.2.2 223 _ (by omega)).2, (F1.2.2 224 _ (by omega)).1]
      exact kp.1 i kn e0
    have L1 : LpI h1 h1 r3 r4 k (n + 1) ks := by
      intro i kn hi e0
      by_cases c : i = n
      · rw [c] at e0 ⊢
        rw [hg] at e0
        have ek := Option.some.inj e0
        rw [← ek]
        have j0 := J1 0 (by decide)
        rw [Nat.add_zero, Nat.add_zero] at j0
        refine ⟨by rw [j0]; exact v.1, by rw [J1 1 (by decide)]; exact v.2.1, by rw [J1 2 (by decide)]; exact v.2.2.1, by rw [J1 3 (by decide)]; exact v.2.2.2.1, I1⟩
      · have w := L i kn (by omega) e0
        rw [(F1.2.2 r3 _ (by omega)).2, (F1.2.2 r3 _ (by omega)).2, (F1.2.2 r3 _ (by omega)).2, (F1.2.2 r3 _ (by omega)).2, (F1.2.2 r4 _ (fun z => by
          rcases z with ⟨z1, z2, z3⟩ | ⟨z1, z2⟩
          · have a1 := y.2.2.1.1; have a2 := y.2.2.2.1.1; rw [← z1] at a1; omega
          · omega)).1]
        exact w
    obtain ⟨h2, E2, L2, F2⟩ := ih (n + 1) m h1 (by omega) (by omega) (F1.mo q) (y.fr F1) kp1 L1
    refine ⟨h2, ?_, L2, (F1.mono (fun r c z => by rcases z with ⟨z1, z2, z3⟩ | ⟨z1, z2⟩; exact Or.inl ⟨z1, by omega, by omega⟩; exact Or.inr ⟨z1, by omega, by omega⟩)).tr F2⟩
    show fX7_lay_b46 _ 220 _ _ _ _ h = _
    unfold fX7_lay_b46
    rw [if_pos q.k220, kp.2, if_neg (nle32 hnl (by omega)), lt_def]
    exact E1.trans E2
end LY
