/-! CALLS: image, back -/
def Lwk (h h' : xH) : Prop := ∀ r k, (∃ x, ckd r = some x) → hI h' r k = hI h r k
def skD (f : Nat → List Kn) : Nat → Nat → Int
  | _, 0 => 0
  | k, d + 1 => ((f k).length : Int) + skD f (k + 1) d
def imA (S : Ast) (k : Nat) : Ast := (aC S, aU S, upA (aI S) k (some (aC S)), aT S, aF S, 0, aR S)
def bkA (S : Ast) (f : Nat → List Kn) : Ast := (f, [], aI S, aT S, aF S, 0, aR S)
section IM
variable {h : xH} {S : Ast} {cap : Nat → Nat} {lst : Nat → List Kn}
theorem cp_one {p o : Nat} (I : ShI h cap lst) (rm : Room h cap) (hp : p < 30) (ho : o < 30) (po : p ≠ o) (hl : (lst o).length ≤ 1600) : ∃ h' cap', fX4_copyOf (sh h p) (sh h o) h = some ((), h') ∧ ShI h' (upA cap p cap') (upA lst p (lst o)) ∧ Room h' (upA cap p cap') ∧ Lwk h h' ∧ Out h h' := by
  obtain ⟨h', cap', E, W, T⟩ := c_copyOf (I.2.1 p hp) (I.2.1 o ho) (fun r k k' z => I.2.2.1 p o hp ho po r k k' z) hl
  have hn := I.2.2.2.2
  refine ⟨h', cap', E, (I.sst hp T W).1, ?_, fun r k hck => ?_, T.2.2.out hn (fun r k a b z => ?_)⟩
  · obtain ⟨p1, p2, p3⟩ := T.1
    obtain ⟨w1, w2⟩ := rm
    have sq : sumQ (upA cap p cap') 30 = sumQ cap 30 - (cap p : Int) + (cap' : Int) := by rw [sumQ_upA, if_pos hp]
    refine ⟨?_, ?_⟩
    · rw [sq]; omega
    · rw [sq]; omega
  · obtain ⟨x, ex⟩ := hck
    have hr : r < 94 := by
      by_cases c : r < 94
      · exact c
      · rw [ckd_big (by omega)] at ex; cases ex
    refine (T.2.2.2 r k (by omega) (fun z => ?_)).1
    have := (I.2.2.2.1 p hp r k z).2.1
    rw [this] at ex; cases ex
  · have := (I.2.2.2.1 p hp r k z).2.2; omega
theorem cp_all {t s : Nat → Nat} (ht : ∀ i, i < 7 → t i < 30) (hs : ∀ i, i < 7 → s i < 30) (ne : ∀ i j, i < 7 → j < 7 → t i ≠ s j) (ti : ∀ i j, i < 7 → j < 7 → t i = t j → i = j) (F : Nat → Nat → xH → Option (Int32 × xH)) (hF : ∀ m i h cap lst, i < 7 → ShI h cap lst → F (m + 1) i h = bd (fX4_copyOf (sh h (t i)) (sh h (s i)) h) (fun _ g => F m (i + 1) g)) : ∀ (d i m : Nat) (h : xH) (cap : Nat → Nat) (lst : Nat → List Kn), i + d = 7 → d < m → ShI h cap lst → Room h cap → (∀ j, j < 7 → (lst (s j)).length ≤ 1600) → ∃ h' cap' lst' m', F m i h = F (m' + 1) 7 h' ∧ ShI h' cap' lst' ∧ Room h' cap' ∧ Lwk h h' ∧ Out h h' ∧ (∀ j, i ≤ j → j < 7 → lst' (t j) = lst (s j)) ∧ (∀ q, (∀ j, i ≤ j → j < 7 → q ≠ t j) → lst' q = lst q) := by
  intro d
  induction d with
  | zero =>
    intro i m h cap lst hi hm I rm hl
    obtain ⟨m, rfl⟩ : ∃ k, m = k + 1 := ⟨m - 1, by omega⟩
    exact ⟨h, cap, lst, m, by rw [show i = 7 by omega], I, rm, fun _ _ _ => rfl, Out.rf h, fun j a b => by omega, fun _ _ => rfl⟩
  | succ d ih =>
    intro i m h cap lst hi hm I rm hl
    obtain ⟨m, rfl⟩ : ∃ k, m = k + 1 := ⟨m - 1, by omega⟩
    have i7 : i < 7 := by omega
    obtain ⟨g, cap1, E1, I1, R1, L1, O1⟩ := cp_one I rm (ht i i7) (hs i i7) (ne i i i7 i7) (hl i i7)
    have es : ∀ j, j < 7 → upA lst (t i) (lst (s i)) (s j) = lst (s j) := fun j hj => by unfold upA; rw [if_neg (fun z => ne i j i7 hj z.symm)]
    obtain ⟨h', cap', lst', m', E2, I2, R2, L2, O2, A2, B2⟩ := ih (i + 1) m g _ _ (by omega) (by omega) I1 R1 (fun j hj => by rw [es j hj]; exact hl j hj)
    refine ⟨h', cap', lst', m', by rw [hF m i h cap lst i7 I, E1, bd_some]; exact E2, I2, R2, fun r k z => (L2 r k z).trans (L1 r k z), O1.tr O2, fun j a b => ?_, fun q hq => ?_⟩
    · by_cases c : j = i
      · rw [c, B2 (t i) (fun j' a' b' z => by have := ti i j' i7 b' z; omega)]
        unfold upA; rw [if_pos rfl]
      · rw [A2 j (by omega) b, es j b]
    · rw [B2 q (fun j a b => hq j (by omega) b)]
      unfold upA; rw [if_neg (hq i (by omega) i7)]
theorem skD_eq {f f' : Nat → List Kn} (e : ∀ i, i < 7 → f i = f' i) : ∀ d k, k + d ≤ 7 → skD f k d = skD f' k d := by
  intro d
  induction d with
  | zero => intro k _; rfl
  | succ d ih => intro k hk; show ((f k).length : Int) + skD f (k + 1) d = ((f' k).length : Int) + skD f' (k + 1) d; rw [e k (by omega), ih (k + 1) (by omega)]
theorem sk_no {k n : Nat} (hk : k < n) (hn : n ≤ 100) : ¬ i32 (n : Int) ≤ i32 (k : Int) := fun z => by have := (i32_le (a := (n : Int)) (b := (k : Int)) ⟨by omega, by omega⟩ ⟨by omega, by omega⟩).mp z; omega
theorem c_skl (I : ShI h cap lst) : ∀ (d k m : Nat) (a : Int), k + d = 6 → d < m → fX6_storeKnots_l4 m 2 (i32 a) (i32 (k : Int)) h = some (i32 (a + skD lst k d), h) := by
  have co := I.1
  intro d
  induction d with
  | zero =>
    intro k m a hk hm
    obtain ⟨m, rfl⟩ : ∃ k, m = k + 1 := ⟨m - 1, by omega⟩
    show fX6_storeKnots_b4 _ 2 _ _ h = some (i32 (a + 0), h)
    unfold fX6_storeKnots_b4
    rw [if_pos (show (6 : Int32) ≤ i32 (k : Int) from (i32_le (a := 6) (b := (k : Int)) ⟨by decide, by decide⟩ ⟨by omega, by omega⟩).mpr (by omega)), Int.add_zero]
  | succ d ih =>
    intro k m a hk hm
    obtain ⟨m, rfl⟩ : ∃ k, m = k + 1 := ⟨m - 1, by omega⟩
    have x1 : ix (i32 (k : Int)) 7 := ix_i (by omega) (by omega) (by decide)
    have n1 := nat_i k (by omega)
    have w := I.2.1 k (by omega)
    have e : sh h k = hR h 3 k := by unfold sh; rw [if_pos (by omega)]
    rw [e] at w
    show fX6_storeKnots_b4 _ 2 _ _ h = some (i32 (a + (((lst k).length : Int) + skD lst (k + 1) d)), h)
    unfold fX6_storeKnots_b4
    rw [if_neg (show ¬ (6 : Int32) ≤ i32 (k : Int) from sk_no (k := k) (n := 6) (by omega) (by decide)), if_pos co.k2, co.r2_0, if_pos co.k3, co.l3, if_pos x1]
    simp only [n1]
    rw [if_pos w.1.1, lt_def, lt_def, w.2.1.1, one32, i32_add, i32_add, kp1, ih (k + 1) m _ (by omega) (by omega), Int.add_assoc]
theorem m_knl {cur : Nat → List Kn} (J : MI0 h cur) : ∀ (d k m : Nat) (a : Int), k + d = 6 → d < m → fX7_knots_l4 m 220 (i32 a) (i32 (k : Int)) h = some (i32 (a + skD cur k d), h) := by
  have q := J.1
  intro d
  induction d with
  | zero =>
    intro k m a hk hm
    obtain ⟨m, rfl⟩ : ∃ k, m = k + 1 := ⟨m - 1, by omega⟩
    show fX7_knots_b4 _ 220 _ _ h = some (i32 (a + 0), h)
    unfold fX7_knots_b4
    rw [if_pos (show (6 : Int32) ≤ i32 (k : Int) from (i32_le (a := 6) (b := (k : Int)) ⟨by decide, by decide⟩ ⟨by omega, by omega⟩).mpr (by omega)), Int.add_zero]
  | succ d ih =>
    intro k m a hk hm
    obtain ⟨m, rfl⟩ : ∃ k, m = k + 1 := ⟨m - 1, by omega⟩
    have x1 : ix (i32 (37 * (k : Int))) 222 := ix_i (by omega) (by omega) (by decide)
    have n1 : (i32 (37 * (k : Int))).toNatClampNeg = 37 * k := by rw [i32_nat (by omega) (by omega)]; omega
    have w := J.2.1 k (by omega)
    show fX7_knots_b4 _ 220 _ _ h = some (i32 (a + (((cur k).length : Int) + skD cur (k + 1) d)), h)
    unfold fX7_knots_b4
    rw [if_neg (show ¬ (6 : Int32) ≤ i32 (k : Int) from sk_no (k := k) (n := 6) (by omega) (by decide)), if_pos q.k220, q.r3, if_pos q.k222, q.l222, s37, i32_mul, if_pos x1]
    simp only [n1]
    rw [lt_def, lt_def, w.1, one32, i32_add, i32_add, kp1, ih (k + 1) m _ (by omega) (by omega), Int.add_assoc]
theorem c_sk (I : ShI h cap lst) : fX6_storeKnots 2 h = some (i32 (skD lst 0 6), h) := by
  unfold fX6_storeKnots
  rw [lt_def, lt_def]
  have := c_skl I 6 0 FU 0 (by omega) (by rw [FU_eq]; omega)
  rw [Int.zero_add] at this
  exact this
theorem m_knS {cur : Nat → List Kn} (J : MI0 h cur) : fX7_knots 220 h = some (i32 (skD cur 0 6), h) := by
  unfold fX7_knots
  rw [lt_def, lt_def]
  have := m_knl J 6 0 FU 0 (by omega) (by rw [FU_eq]; omega)
  rw [Int.zero_add] at this
  exact this
theorem c_isImage {a : Int} (ha : B32 a) (h : xH) : fX6_isImage (i32 a) h = some (bz (decide (0 ≤ a ∧ a ≤ 1)), h) := by
  have l1 : (i32 a < (0 : Int32)) ↔ a < 0 := i32_lt ha (b := 0) ⟨by decide, by decide⟩
  have l2 : ((2 : Int32) ≤ i32 a) ↔ 2 ≤ a := i32_le (a := 2) ⟨by decide, by decide⟩ ha
  unfold fX6_isImage
  by_cases c1 : a < 0
  · rw [if_pos (l1.mpr c1), decide_eq_false (by omega)]; rfl
  · rw [if_neg (fun z => c1 (l1.mp z))]
    by_cases c2 : 2 ≤ a
    · rw [if_pos (l2.mpr c2), decide_eq_false (by omega)]; rfl
    · rw [if_neg (fun z => c2 (l2.mp z)), decide_eq_true (by omega)]; rfl
theorem sh_im {k i : Nat} : sh h (16 + 7 * k + i) = hR h 62 (7 * k + i) := by
  unfold sh
  rw [if_neg (by omega), if_neg (by omega), if_neg (by omega), show 16 + 7 * k + i - 16 = 7 * k + i by omega]
theorem sh_lo {i : Nat} (hi : i < 7) : sh h i = hR h 3 i := by unfold sh; rw [if_pos hi]
theorem c_image_ok {k : Nat} (hk : k < 2) (K : AOk S) (C : CSt h S) : ∃ g, fX6_image 2 (i32 (k : Int)) h = some (i32 (skD (aC S) 0 6), g) ∧ CSt g (imA S k) ∧ Out h g := by
  obtain ⟨cap, lst, c1, c2, c3, c4, c5⟩ := C
  have xk : ix (i32 (k : Int)) 2 := ix_i (by omega) (by omega) (by decide)
  have nk := nat_i k (by omega)
  have hl : ∀ j, j < 7 → (lst j).length ≤ 1600 := fun j hj => by
    rw [c2 j hj]
    by_cases c : j < 6
    · have := K.1.len.1 j c; omega
    · rw [show j = 6 by omega]; exact K.1.len.2
  obtain ⟨h', cap', lst', m', E, I', R', L', O', A', B'⟩ := cp_all (t := fun i => 16 + 7 * k + i) (s := fun i => i) (fun i hi => by show 16 + 7 * k + i < 30; omega) (fun i hi => by show i < 30; omega) (fun i j hi hj => by show 16 + 7 * k + i ≠ j; omega) (fun i j hi hj z => by have z : 16 + 7 * k + i = 16 + 7 * k + j := z; omega) (fun m i h => fX6_image_l15 m 2 (i32 (k : Int)) (i32 (i : Int)) h) (fun m i h cap lst hi I => by
    have co := I.1
    have x1 : ix (i32 ((k : Int) * 7 + (i : Int))) 14 := ix_i (by omega) (by omega) (by decide)
    have n1 : (i32 ((k : Int) * 7 + (i : Int))).toNatClampNeg = 7 * k + i := by rw [i32_nat (by omega) (by omega)]; omega
    have x2 : ix (i32 (i : Int)) 7 := ix_i (by omega) (by omega) (by decide)
    have n2 := nat_i i (by omega)
    have w := I.2.1 (16 + 7 * k + i) (by omega)
    rw [sh_im] at w
    show fX6_image_b15 _ 2 _ _ h = bd (fX4_copyOf (sh h (16 + 7 * k + i)) (sh h i) h) _
    rw [sh_im, sh_lo hi]
    unfold fX6_image_b15
    rw [if_neg (show ¬ (7 : Int32) ≤ i32 (i : Int) from sk_no (k := i) (n := 7) (by omega) (by decide)), if_pos co.k2, co.r2_3, if_pos co.k62, co.l62, show (7 : Int32) = i32 7 from rfl, i32_mul, i32_add, if_pos x1, co.r2_0, if_pos co.k3, co.l3, if_pos x2]
    simp only [n1, n2]
    rw [if_pos w.1.1]
    simp only [lt_def, one32, i32_add, kp1]) 7 0 FU h cap lst (by omega) (by rw [FU_eq]; omega) c1.1 c3 hl
  have co := I'.1
  have f : Fr (fun r c => (r = 63 ∧ c = k) ∨ (r = 2 ∧ c = 6)) h' (sI (sI h' 63 k 1) 2 6 0) := (Fr.I _ (Or.inl ⟨rfl, rfl⟩)).tr (Fr.I _ (Or.inr ⟨rfl, rfl⟩))
  have ex : ∃ g, g = sI (sI h' 63 k 1) 2 6 0 := ⟨_, rfl⟩
  obtain ⟨g, eg⟩ := ex
  rw [← eg] at f
  have Ig : ShI g cap' lst' := I'.fr f (fun r c fr z => by
    have := fr.2.1
    rcases z with z | z <;> rw [z.1] at this <;> cases this)
  have o : ∀ r c, (∃ x, ckd r = some x) → ¬ ((r = 63 ∧ c = k) ∨ (r = 2 ∧ c = 6)) → hI g r c = hI h r c := fun r c z1 z2 => ((f.2.2 r c z2).1).trans (L' r c z1)
  have lo : ∀ q, (q < 16 + 7 * k ∨ 16 + 7 * k + 7 ≤ q) → lst' q = lst q := fun q hq => B' q (fun j _ hj => by show q ≠ 16 + 7 * k + j; omega)
  obtain ⟨nx, n1, n2, n3, n4, n5⟩ := c1.2.1
  refine ⟨g, ?_, ⟨cap', lst', ⟨Ig, ⟨nx, n1, by rw [o 10 2 ⟨_, rfl⟩ (by omega)]; exact n2, n3, by rw [o 10 0 ⟨_, rfl⟩ (by omega)]; exact n4, fun t u e0 => ?_⟩, fun p hp => ?_⟩, fun i hi => by rw [lo i (by omega)]; exact c2 i hi, ?_, ?_, fun j hj => ?_, ?_, ?_, fun j hj => ?_⟩, O'.tr (f.out (fun r c a b => by omega))⟩
  · have e0 : skD lst' 0 6 = skD (aC S) 0 6 := skD_eq (fun i hi => by rw [lo i (by omega)]; exact c2 i hi) 6 0 (by decide)
    have ee : fX6_image_b15 (fX6_image_l15 m') 2 (i32 (k : Int)) (i32 ((7 : Nat) : Int)) h' = some (i32 (skD (aC S) 0 6), g) := by
      unfold fX6_image_b15
      rw [if_pos (show (7 : Int32) ≤ i32 ((7 : Nat) : Int) by decide), if_pos co.k2, co.r2_4, if_pos co.k63, co.l63, if_pos xk]
      simp only [nk]
      rw [lt_def, lt_def, ← eg, c_sk Ig, bd_some, e0]
    have bi : B32 (k : Int) := ⟨by omega, by omega⟩
    unfold fX6_image
    rw [c_isImage bi, bd_some, decide_eq_true (by omega), if_neg bzt0, lt_def]
    exact E.trans ee
  · rw [o 11 _ ⟨_, rfl⟩ (by omega), o 12 _ ⟨_, rfl⟩ (by omega)]
    have v := n5 t u e0
    exact ⟨v.1, v.2.1, v.2.2.1, by rw [lo _ (by omega)]; exact v.2.2.2⟩
  · by_cases c : p = k
    · have eu : aI (imA S k) p = some (aC S) := by show upA (aI S) k (some (aC S)) p = _; unfold upA; rw [if_pos c]
      rw [eu]
      refine ⟨by rw [c, eg, hI_sI, if_neg (by omega), hI_sI, if_pos ⟨rfl, rfl⟩]; rfl, fun f ef i hi => ?_⟩
      rw [← Option.some.inj ef, c]
      exact (A' i (Nat.zero_le _) hi).trans (c2 i hi)
    · have eu : aI (imA S k) p = aI S p := by show upA (aI S) k (some (aC S)) p = _; unfold upA; rw [if_neg c]
      rw [eu]
      have im := c1.2.2 p hp
      exact ⟨by rw [o 63 p ⟨_, rfl⟩ (by omega)]; exact im.1, fun f ef i hi => by rw [lo _ (by omega)]; exact im.2 f ef i hi⟩
  · have ec : cnt g = cnt h' ∧ siz g = siz h' := by unfold cnt siz; rw [f.1]; exact ⟨rfl, rfl⟩
    unfold Room; rw [ec.1, ec.2]; exact R'
  · rw [eg, hI_sI, if_pos ⟨rfl, rfl⟩]; rfl
  · rw [o 66 j ⟨_, rfl⟩ (by omega)]; exact c5.1 j hj
  · rw [o 64 0 ⟨_, rfl⟩ (by omega)]; exact c5.2.1
  · rw [o 64 1 ⟨_, rfl⟩ (by omega)]; exact c5.2.2.1
  · rw [o 65 j ⟨_, rfl⟩ (by omega)]; exact c5.2.2.2 j hj
end IM
