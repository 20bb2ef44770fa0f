/-! split: the reference; both -/
section SP
variable {h : xH} {f g : List Kn} {x u : Int} {b : Option (Rat × Int)}
def stV (v w : Option Rat) (u : Int) (b : Option (Rat × Int)) : Option (Rat × Int) := match v, w with
  | some a, some c => stB (a + c) u b
  | _, _ => b
theorem stp_V {v1 v2 : Option Rat} (V1 : IsV f (u : Rat) v1) (V2 : IsV g ((x - u : Int) : Rat) v2) : stp f g x u b = stV v1 v2 u b := by
  unfold stp stV
  rw [vO_eq V1, vO_eq V2]
  cases v1 <;> cases v2 <;> rfl
theorem m_t109 (q : Mo h) {n d : Int} (hn : -100000000000000 ≤ n ∧ n ≤ 100000000000000) (d0 : 0 < d) (d1 : d ≤ 150000000) (hu : -20000 ≤ u ∧ u ≤ 20000) : ∃ h', fX7_tries_b109 220 (i32 u) (i64 n) (i64 d) h = some ((), h') ∧ SpM h' (some ((n : Rat) / (d : Rat), u)) ∧ Fr MSc h h' := by
  refine ⟨sI (sI (sJ (sJ h 220 50 (i64 n)) 220 51 (i64 d)) 220 52 (i32 u)) 220 53 1, ?_, ⟨?_, fun v w e => ?_⟩, ?_⟩
  · unfold fX7_tries_b109 fX7_tries_b127
    simp only [q.k220, kc_sI, kc_sJ, lt_def, reduceIte]
  · rw [hI_sI, if_pos ⟨rfl, rfl⟩]; rfl
  · have e := Option.some.inj e
    have e1 : (n : Rat) / (d : Rat) = v := congrArg Prod.fst e
    have e2 : u = w := congrArg Prod.snd e
    rw [← e1, ← e2]
    refine ⟨by simp [hI_sI], hu, n, d, by simp [hJ_sI, hJ_sJ], by simp [hJ_sI, hJ_sJ], hn, d0, d1, rfl⟩
  · exact (((Fr.J _ (Or.inr ⟨rfl, by omega⟩)).tr (Fr.J _ (Or.inr ⟨rfl, by omega⟩))).tr (Fr.I _ (Or.inr ⟨rfl, by omega⟩))).tr (Fr.I _ (Or.inr ⟨rfl, by omega⟩))
theorem m_t127 (q : Mo h) {d : Rat × Int} (S : SpM h (some d)) : ∃ h', fX7_tries_b127 220 h = some ((), h') ∧ SpM h' (some d) ∧ Fr MSc h h' := by
  refine ⟨sI h 220 53 1, ?_, ⟨?_, fun v w e => ?_⟩, Fr.I _ (Or.inr ⟨rfl, by omega⟩)⟩
  · unfold fX7_tries_b127
    rw [if_pos q.k220, lt_def]
  · rw [hI_sI, if_pos ⟨rfl, rfl⟩]; rfl
  · have := S.2 v w e
    rw [hI_sI, if_neg (by omega)]
    exact this
theorem m_tries (q : Mo h) {i j : Nat} (hi : i < 6) (hj : j < 6) (R1 : Rwi h i f) (R2 : Rwi h j g) (O1 : StO f) (O2 : StO g) (hx : -5940 ≤ x ∧ x ≤ 5940) (hu : -12000 ≤ u ∧ u ≤ 12000) (S : SpM h b) : ∃ h', fX7_tries 220 (i32 i) (i32 j) (i32 x) (i32 u) h = some ((), h') ∧ SpM h' (stp f g x u b) ∧ Fr MSc h h' := by
  obtain ⟨g1, v1, E1, V1, N1, F1⟩ := m_hasValue q hi O1 R1 (x := u) (by omega)
  have q1 := F1.mo q
  obtain ⟨g2, v2, E2, V2, N2, F2⟩ := m_hasValue q1 hj O2 (R2.fr F1 MSv_222) (x := x - u) (by omega)
  have q2 := F2.mo q1
  have na : ¬ MSv 220 50 ∧ ¬ MSv 220 51 ∧ ¬ MSv 220 52 ∧ ¬ MSv 220 53 := by unfold MSv; omega
  have S1 := S.fr F1 na
  have S2 := S1.fr F2 na
  have f1 := F1.mono (B := MSc) (fun _ _ z => MSv_ms z)
  have f2 := F2.mono (B := MSc) (fun _ _ z => MSv_ms z)
  rw [stp_V V1 V2]
  unfold fX7_tries
  rw [if_pos q.k220, E1, bd_some]
  cases v1 with
  | none => rw [if_pos (by rfl)]; exact ⟨g1, rfl, S1, f1⟩
  | some a =>
    obtain ⟨n1, d1, e1, e2, nb1, p1, db1, ea⟩ := N1 a rfl
    rw [if_neg (show ¬ bz (some a).isSome = 0 from bzt0), lt_def, lt_def, i32_sub, E2, bd_some, e1, e2]
    cases v2 with
    | none => rw [if_pos (by rfl)]; exact ⟨g2, rfl, S2, f1.tr f2⟩
    | some c =>
      obtain ⟨n2, d2, e3, e4, nb2, p2, db2, ec⟩ := N2 c rfl
      rw [if_neg (show ¬ bz (some c).isSome = 0 from bzt0), lt_def, lt_def, e3, e4, i64_mul, i64_mul, i64_add, i64_mul, S2.1]
      have m1 := mul_bd (a := n1) (b := d2) (A := 1000000000) (B := 12000) nb1 ⟨by omega, by omega⟩
      have m2 := mul_bd (a := n2) (b := d1) (A := 1000000000) (B := 12000) nb2 ⟨by omega, by omega⟩
      have m3 := mul_bd (a := d1) (b := d2) (A := 12000) (B := 12000) ⟨by omega, by omega⟩ ⟨by omega, by omega⟩
      have p3 : 0 < d1 * d2 := Int.mul_pos p1 p2
      have eac : a + c = ((n1 * d2 + n2 * d1 : Int) : Rat) / ((d1 * d2 : Int) : Rat) := by
        have k1 : (d1 : Rat) ≠ 0 := by
          intro z
          have : d1 = 0 := by exact_mod_cast z
          omega
        have k2 : (d2 : Rat) ≠ 0 := by
          intro z
          have : d2 = 0 := by exact_mod_cast z
          omega
        rw [ea, ec, Rat.intCast_add, Rat.intCast_mul, Rat.intCast_mul, Rat.intCast_mul]
        grind
      obtain ⟨g4, E4, S4, F4⟩ := m_t109 (u := u) q2 (n := n1 * d2 + n2 * d1) (d := d1 * d2) ⟨by omega, by omega⟩ p3 (by omega) ⟨by omega, by omega⟩
      rw [← eac] at S4
      have f12 := f1.tr f2
      cases b with
      | none =>
        rw [if_pos (by rfl)]
        unfold fX7_tries_b88
        rw [if_pos (by decide)]
        exact ⟨g4, E4, S4, f12.tr F4⟩
      | some d =>
        obtain ⟨su, ub, n5, d5, e5, e6, nb5, p5, db5, ed⟩ := S2.2 d.1 d.2 rfl
        rw [if_neg (show ¬ bz (some d).isSome = 0 from bzt0), e5, e6, m_lie (a := n1 * d2 + n2 * d1) (b := d1 * d2) (c := n5) (d := d5) g2 ⟨by omega, by omega⟩ p3 ⟨by omega, by omega⟩ ⟨by omega, by omega⟩ p5 ⟨by omega, by omega⟩, bd_some]
        rw [show stV (some a) (some c) u (some d) = stB (a + c) u (some d) from rfl]
        unfold fX7_tries_b88 stB
        simp only [si_lt, si_eq, sq_lt p3 p5, sq_eq p3 p5, ← eac, ← ed]
        obtain ⟨g5, E5, S5, F5⟩ := m_t127 q2 S2
        by_cases k1 : a + c < d.1
        · rw [if_pos k1, if_pos (Or.inl k1)]
          exact ⟨g4, E4, S4, f12.tr F4⟩
        · rw [if_neg k1]
          by_cases k2 : a + c = d.1
          · rw [if_pos k2, if_pos q2.k220, su]
            by_cases k3 : d.2 ≤ u
            · rw [if_pos ((i32_le (a := d.2) (b := u) ⟨by omega, by omega⟩ ⟨by omega, by omega⟩).mpr k3), if_neg (fun z => by rcases z with z | z; exact k1 z; omega)]
              exact ⟨g5, E5, S5, f12.tr F5⟩
            · rw [if_neg (fun z => k3 ((i32_le (a := d.2) (b := u) ⟨by omega, by omega⟩ ⟨by omega, by omega⟩).mp z)), if_pos (Or.inr ⟨k2, by omega⟩)]
              exact ⟨g4, E4, S4, f12.tr F4⟩
          · rw [if_neg k2, if_neg (fun z => by rcases z with z | z; exact k1 z; exact k2 z.1)]
            exact ⟨g5, E5, S5, f12.tr F5⟩
/-! the loops -/
theorem CI0.fr {cur : Nat → List Kn} {h' : xH} (I : CI0 h cur) (F : Fr CSc h h') (hA : ∀ i, i < 7 → ∀ r k, AX h (hR h 3 i) r k → ¬ CSc r k) : CI0 h' cur := by
  refine ⟨F.co I.1, fun i hi => ?_⟩
  obtain ⟨cap, W⟩ := I.2 i hi
  rw [F.ehR]
  exact ⟨cap, W.fr F (hA i hi)⟩
theorem CI0.cs {cur : Nat → List Kn} (I : CI0 h cur) : ∀ i, i < 7 → ∀ r k, AX h (hR h 3 i) r k → ¬ CSc r k := by
  intro i hi r k z y
  obtain ⟨cap, W⟩ := I.2 i hi
  have kr : kc h r = 4 ∨ kc h r = 9 ∨ kc h r = 8 := by
    rcases z with z | ⟨j, j1, j2, z⟩
    · rw [z]; exact Or.inl W.1.1
    · rw [z]
      by_cases e : j = 5
      · rw [e]; exact Or.inr (Or.inr W.c5)
      · exact Or.inr (Or.inl (W.1.2.1 j j1 (by omega)).1)
  have co := I.1
  rcases y with y | y
  · rcases (show r = 88 ∨ r = 89 ∨ r = 90 ∨ r = 91 ∨ r = 92 ∨ r = 93 by omega) with e | e | e | e | e | e <;> rw [e] at kr
    · have := co.k88; omega
    · have := co.k89; omega
    · have := co.k90; omega
    · have := co.k91; omega
    · have := co.k92; omega
    · have := co.k93; omega
  · rw [y.1] at kr; have := co.k2; omega
theorem CI0.fc {cur : Nat → List Kn} {h' : xH} (I : CI0 h cur) (F : Fr CSc h h') : CI0 h' cur := I.fr F I.cs
noncomputable def sp1 (f g : List Kn) (x : Int) (k : Nat) (b : Option (Rat × Int)) : Option (Rat × Int) := stp f g x (kx f k) b
noncomputable def sp2 (f g : List Kn) (x : Int) (k : Nat) (b : Option (Rat × Int)) : Option (Rat × Int) := stp f g x (x - kx g k) b
theorem c_fs46 {cur : Nat → List Kn} (C : CurOk cur) {i j : Nat} (hi : i < 6) (hj : j < 6) (hx : -5940 ≤ x ∧ x ≤ 5940) : ∀ (d k m : Nat) (h : xH) (b : Option (Rat × Int)), k + d = (cur j).length → d < m → CI0 h cur → SpC h b → ∃ h', fX6_findSplit_l46 m 2 (hR h 3 i) (hR h 3 j) (i32 x) (i32 (k : Int)) h = some ((), h') ∧ SpC h' (fo (sp2 (cur i) (cur j) x) d k b) ∧ Fr CSc h h' := by
  have O1 := (C.1 i hi).1
  have O2 := (C.1 j hj).1
  intro d
  induction d with
  | zero =>
    intro k m h b hk hm I S
    obtain ⟨m, rfl⟩ : ∃ k, m = k + 1 := ⟨m - 1, by omega⟩
    obtain ⟨cap, W⟩ := I.2 j (by omega)
    refine ⟨h, ?_, S, Fr.rf h⟩
    show fX6_findSplit_b46 _ 2 _ _ _ _ h = _
    unfold fX6_findSplit_b46
    rw [if_pos W.1.1, W.2.1.1, if_pos (by rw [show k = (cur j).length by omega]; exact Int32.le_refl _)]
  | succ d ih =>
    intro k m h b hk hm I S
    obtain ⟨m, rfl⟩ : ∃ k, m = k + 1 := ⟨m - 1, by omega⟩
    have hkl : k < (cur j).length := by omega
    obtain ⟨cap, W⟩ := I.2 j (by omega)
    obtain ⟨cap1, W1⟩ := I.2 i (by omega)
    have h12 := O2.1
    have bk := O2.2.1.b hkl
    obtain ⟨g1, E1, S1, F1⟩ := c_trySplit I.1 W1 W O1 O2 hx (u := x - kx (cur j) k) ⟨by omega, by omega⟩ S
    obtain ⟨g2, E2, S2, F2⟩ := ih (k + 1) m g1 _ (by omega) (by omega) (I.fc F1) S1
    rw [F1.ehR, F1.ehR] at E2
    refine ⟨g2, ?_, S2, F1.tr F2⟩
    show fX6_findSplit_b46 _ 2 _ _ _ _ h = _
    unfold fX6_findSplit_b46
    rw [if_pos W.1.1, W.2.1.1, if_neg (nle32 hkl (by omega)), c_xAt W hkl, bd_some, if_pos I.1.k2, i32_sub, E1, bd_some, lt_def, one32, i32_add, kp1]
    exact E2
theorem c_fs15 {cur : Nat → List Kn} (C : CurOk cur) {i j : Nat} (hi : i < 6) (hj : j < 6) (hx : -5940 ≤ x ∧ x ≤ 5940) : ∀ (d k m : Nat) (h : xH) (b : Option (Rat × Int)), k + d = (cur i).length → d < m → CI0 h cur → SpC h b → ∃ h', fX6_findSplit_l15 m 2 (hR h 3 i) (hR h 3 j) (i32 x) (i32 (k : Int)) h = some ((), h') ∧ SpC h' (fo (sp2 (cur i) (cur j) x) (cur j).length 0 (fo (sp1 (cur i) (cur j) x) d k b)) ∧ Fr CSc h h' := by
  have O1 := (C.1 i hi).1
  have O2 := (C.1 j hj).1
  intro d
  induction d with
  | zero =>
    intro k m h b hk hm I S
    obtain ⟨m, rfl⟩ : ∃ k, m = k + 1 := ⟨m - 1, by omega⟩
    obtain ⟨cap, W⟩ := I.2 i (by omega)
    obtain ⟨g1, E1, S1, F1⟩ := c_fs46 C hi hj hx (cur j).length 0 FU h b (by omega) (by rw [FU_eq]; have := O2.1; omega) I S
    refine ⟨g1, ?_, S1, F1⟩
    show fX6_findSplit_b15 _ 2 _ _ _ _ h = _
    unfold fX6_findSplit_b15
    rw [if_pos W.1.1, W.2.1.1, if_pos (by rw [show k = (cur i).length by omega]; exact Int32.le_refl _), lt_def]
    exact E1
  | succ d ih =>
    intro k m h b hk hm I S
    obtain ⟨m, rfl⟩ : ∃ k, m = k + 1 := ⟨m - 1, by omega⟩
    have hkl : k < (cur i).length := by omega
    obtain ⟨cap, W⟩ := I.2 j (by omega)
    obtain ⟨cap1, W1⟩ := I.2 i (by omega)
    have h12 := O1.1
    have bk := O1.2.1.b hkl
    obtain ⟨g1, E1, S1, F1⟩ := c_trySplit I.1 W1 W O1 O2 hx (u := kx (cur i) k) ⟨by omega, by omega⟩ S
    obtain ⟨g2, E2, S2, F2⟩ := ih (k + 1) m g1 _ (by omega) (by omega) (I.fc F1) S1
    rw [F1.ehR, F1.ehR] at E2
    refine ⟨g2, ?_, S2, F1.tr F2⟩
    show fX6_findSplit_b15 _ 2 _ _ _ _ h = _
    unfold fX6_findSplit_b15
    rw [if_pos W1.1.1, W1.2.1.1, if_neg (nle32 hkl (by omega)), c_xAt W1 hkl, bd_some, if_pos I.1.k2, E1, bd_some, lt_def, one32, i32_add, kp1]
    exact E2
noncomputable def spl (f g : List Kn) (x : Int) : Option (Rat × Int) := fo (sp2 f g x) g.length 0 (fo (sp1 f g x) f.length 0 none)
/-- what split answers -/
def spA (b : Option (Rat × Int)) (w : Int) : Int := match b with
  | none => -9223372036854775808
  | some d => if w < 2 then prt (d.1 / 60) w else prt ((d.2 : Rat) / 60) w
theorem m_s85 {cur : Nat → List Kn} (C : CurOk cur) {i j : Nat} (hi : i < 6) (hj : j < 6) (hx : -5940 ≤ x ∧ x ≤ 5940) {w : Int} (hw : 0 ≤ w ∧ w ≤ 3) : ∀ (d k m : Nat) (h : xH) (b : Option (Rat × Int)), k + d = (cur j).length → d < m → MI0 h cur → SpM h b → ∃ h', fX7_split_l85 m 220 (i32 i) (i32 j) (i32 x) (i32 w) (i32 (k : Int)) h = some (i64 (spA (fo (sp2 (cur i) (cur j) x) d k b) w), h') ∧ Fr MSc h h' := by
  have O1 := (C.1 i hi).1
  have O2 := (C.1 j hj).1
  have h12 := O2.1
  have bw : B32 w := ⟨by omega, by omega⟩
  intro d
  induction d with
  | zero =>
    intro k m h b hk hm J S
    obtain ⟨m, rfl⟩ : ∃ k, m = k + 1 := ⟨m - 1, by omega⟩
    refine ⟨h, ?_, Fr.rf h⟩
    show fX7_split_b85 _ 220 _ _ _ _ _ h = _
    unfold fX7_split_b85 fo
    rw [if_pos J.1.k220, m_many J.1 hj (J.2.1 j hj), bd_some, if_pos (by rw [show k = (cur j).length by omega]; exact Int32.le_refl _), S.1]
    cases b with
    | none => rw [if_pos (by rfl)]; rfl
    | some d =>
      obtain ⟨su, ub, n5, d5, e5, e6, nb5, p5, db5, ed⟩ := S.2 d.1 d.2 rfl
      rw [if_neg (show ¬ bz (some d).isSome = 0 from bzt0)]
      unfold spA
      by_cases c : w < 2
      · rw [if_neg (show ¬ (2 : Int32) ≤ i32 w from fun z => by have := (i32_le (a := 2) ⟨by decide, by decide⟩ bw).mp z; omega), e5, e6, show (60 : Int64) = i64 60 from rfl, i64_mul, m_part (n := n5) (d := 60 * d5) ⟨by omega, by omega⟩ ⟨by omega, by omega⟩ (by omega) hw h, bd_some, q60 p5, ← ed]
        simp only [if_pos c]
      · rw [if_pos (show (2 : Int32) ≤ i32 w from (i32_le (a := 2) ⟨by decide, by decide⟩ bw).mpr (by omega)), su, i64_of32 ⟨by omega, by omega⟩, show (60 : Int64) = i64 60 from rfl, m_part (n := d.2) (d := 60) ⟨by omega, by omega⟩ ⟨by decide, by decide⟩ (by decide) hw h, bd_some]
        simp only [if_neg c]
        rfl
  | succ d ih =>
    intro k m h b hk hm J S
    obtain ⟨m, rfl⟩ : ∃ k, m = k + 1 := ⟨m - 1, by omega⟩
    have hkl : k < (cur j).length := by omega
    have bk := O2.2.1.b hkl
    obtain ⟨g1, E1, S1, F1⟩ := m_tries J.1 hi hj (J.2.1 i hi) (J.2.1 j hj) O1 O2 hx (u := x - kx (cur j) k) ⟨by omega, by omega⟩ S
    obtain ⟨g2, E2, F2⟩ := ih (k + 1) m g1 _ (by omega) (by omega) (J.fr F1) S1
    refine ⟨g2, ?_, F1.tr F2⟩
    show fX7_split_b85 _ 220 _ _ _ _ _ h = _
    unfold fX7_split_b85
    rw [if_pos J.1.k220, m_many J.1 hj (J.2.1 j hj), bd_some, if_neg (nle32 hkl (by omega)), m_xOf J.1 hj h12 (J.2.1 j hj) hkl, bd_some, i32_sub, E1, bd_some, lt_def, one32, i32_add, kp1]
    exact E2
theorem m_s52 {cur : Nat → List Kn} (C : CurOk cur) {i j : Nat} (hi : i < 6) (hj : j < 6) (hx : -5940 ≤ x ∧ x ≤ 5940) {w : Int} (hw : 0 ≤ w ∧ w ≤ 3) : ∀ (d k m : Nat) (h : xH) (b : Option (Rat × Int)), k + d = (cur i).length → d < m → MI0 h cur → SpM h b → ∃ h', fX7_split_l52 m 220 (i32 i) (i32 j) (i32 x) (i32 w) (i32 (k : Int)) h = some (i64 (spA (fo (sp2 (cur i) (cur j) x) (cur j).length 0 (fo (sp1 (cur i) (cur j) x) d k b)) w), h') ∧ Fr MSc h h' := by
  have O1 := (C.1 i hi).1
  have O2 := (C.1 j hj).1
  have h12 := O1.1
  intro d
  induction d with
  | zero =>
    intro k m h b hk hm J S
    obtain ⟨m, rfl⟩ : ∃ k, m = k + 1 := ⟨m - 1, by omega⟩
    obtain ⟨g1, E1, F1⟩ := m_s85 C hi hj hx hw (cur j).length 0 FU h b (by omega) (by rw [FU_eq]; have := O2.1; omega) J S
    refine ⟨g1, ?_, F1⟩
    show fX7_split_b52 _ 220 _ _ _ _ _ h = _
    unfold fX7_split_b52
    rw [if_pos J.1.k220, m_many J.1 hi (J.2.1 i hi), bd_some, if_pos (by rw [show k = (cur i).length by omega]; exact Int32.le_refl _), lt_def]
    exact E1
  | succ d ih =>
    intro k m h b hk hm J S
    obtain ⟨m, rfl⟩ : ∃ k, m = k + 1 := ⟨m - 1, by omega⟩
    have hkl : k < (cur i).length := by omega
    have bk := O1.2.1.b hkl
    obtain ⟨g1, E1, S1, F1⟩ := m_tries J.1 hi hj (J.2.1 i hi) (J.2.1 j hj) O1 O2 hx (u := kx (cur i) k) ⟨by omega, by omega⟩ S
    obtain ⟨g2, E2, F2⟩ := ih (k + 1) m g1 _ (by omega) (by omega) (J.fr F1) S1
    refine ⟨g2, ?_, F1.tr F2⟩
    show fX7_split_b52 _ 220 _ _ _ _ _ h = _
    unfold fX7_split_b52
    rw [if_pos J.1.k220, m_many J.1 hi (J.2.1 i hi), bd_some, if_neg (nle32 hkl (by omega)), m_xOf J.1 hi h12 (J.2.1 i hi) hkl, bd_some, E1, bd_some, lt_def, one32, i32_add, kp1]
    exact E2
theorem Q_split {cur : Nat → List Kn} (C : CurOk cur) (a b c e : Int32) : Ag cur (fX6_split 2 a b c e) (fX7_split 220 a b c e) := by
  obtain ⟨i, bi, rfl⟩ := i32_ex a
  obtain ⟨j, bj, rfl⟩ := i32_ex b
  obtain ⟨x, bx, rfl⟩ := i32_ex c
  obtain ⟨w, bw, rfl⟩ := i32_ex e
  intro h h' I J
  have Bx : B64 x := ⟨by have := bx.1; omega, by have := bx.2; omega⟩
  have Bw : B64 w := ⟨by have := bw.1; omega, by have := bw.2; omega⟩
  unfold fX6_split fX7_split
  simp only [if_pos J.1.k220, lt_def, c_isStore bi, m_isStore bi, c_isStore bj, m_isStore bj, bd_some, bzd, i64_of32 bx, i64_of32 bw, c_isPlace Bx, m_isPlace Bx, z64, show (3 : Int64) = i64 3 from rfl, m_in (b := 0) (c := 3) Bw ⟨by decide, by decide⟩ ⟨by decide, by decide⟩]
  have l1 : (i32 w < (0 : Int32)) ↔ w < 0 := i32_lt bw (b := 0) ⟨by decide, by decide⟩
  have l2 : (i32 w ≤ (3 : Int32)) ↔ w ≤ 3 := i32_le bw (b := 3) ⟨by decide, by decide⟩
  by_cases h1 : 0 ≤ i ∧ i ≤ 5
  · by_cases h1' : 0 ≤ j ∧ j ≤ 5
    · by_cases h2 : -5940 ≤ x ∧ x ≤ 5940
      · by_cases h3 : 0 ≤ w ∧ w ≤ 3
        · simp only [if_pos h1, if_pos h1', if_pos h2, if_pos h3, l1, l2]
          rw [if_neg (show ¬ w < 0 by omega), if_pos (show w ≤ 3 by omega)]
          obtain ⟨n, rfl⟩ : ∃ n : Nat, i = n := ⟨i.toNat, by omega⟩
          obtain ⟨n2, rfl⟩ : ∃ n : Nat, j = n := ⟨j.toNat, by omega⟩
          have hn : n < 6 := by omega
          have hn2 : n2 < 6 := by omega
          have O1 := (C.1 n hn).1
          have co := I.1
          have sl := I.s (show n < 7 by omega)
          have sl2 := I.s (show n2 < 7 by omega)
          have f0 := thr0 h'
          have fm : Fr MSc (sI h' 220 0 0) (sI (sI h' 220 0 0) 220 53 0) := Fr.I _ (Or.inr ⟨rfl, by omega⟩)
          obtain ⟨g3, E3, F3⟩ := m_s52 C hn hn2 h2 h3 (cur n).length 0 FU _ none (by omega) (by rw [FU_eq]; have := O1.1; omega) ((J.fr f0).fr fm) ⟨by rw [hI_sI, if_pos ⟨rfl, rfl⟩]; rfl, fun v u e => by cases e⟩
          have E3' : fX7_split_l52 FU 220 (i32 (n : Int)) (i32 (n2 : Int)) (i32 x) (i32 w) 0 (sI (sI h' 220 0 0) 220 53 0) = some (i64 (spA (spl (cur n) (cur n2) x) w), g3) := E3
          obtain ⟨k1, G1, R1, H1⟩ := c_forget (h := h) (r := 90) co.k90
          have H1' := H1.mono (B := CSc) (fun _ _ z => AR_cs (by decide) (by decide) z)
          have H2 : Fr CSc k1 (sI k1 2 14 0) := Fr.I _ (Or.inr ⟨rfl, rfl⟩)
          obtain ⟨k2, G2, S2, H3⟩ := c_fs15 C hn hn2 h2 (cur n).length 0 FU (sI k1 2 14 0) none (by omega) (by rw [FU_eq]; have := O1.1; omega) ((I.fc H1').fc H2) ⟨Rt_sI14 R1 (by decide), fun v u e => by cases e⟩
          have S2' : SpC k2 (spl (cur n) (cur n2) x) := S2
          have FF := (H1'.tr H2).tr H3
          have co2 := FF.co co
          have Gs : fX6_findSplit 2 (hR h 3 n) (hR h 3 n2) (i32 x) h = some ((), k2) := by
            unfold fX6_findSplit
            rw [if_pos co.k2, co.r2_13, if_pos co.k90, G1, bd_some, lt_def, lt_def]
            rw [hR_sI, hR_sI, H1.ehR, H1.ehR] at G2
            exact G2
          rw [if_pos co.k2, co.r2_0, if_pos co.k3, if_pos sl.1, if_pos sl2.1, sl.2, sl2.2, Gs, bd_some, co2.r2_13, if_pos co2.k90, S2'.1.1, E3']
          generalize spl (cur n) (cur n2) x = bb at S2'
          cases bb with
          | none =>
            rw [if_pos (by rfl)]
            exact ⟨_, k2, g3, rfl, FF, rfl, (f0.tr fm).tr F3⟩
          | some d =>
            rw [if_neg (show ¬ bz ((some d).map (fun d => d.1)).isSome = 0 from bzt0)]
            obtain ⟨su, sb⟩ := S2'.2 d.1 d.2 rfl
            have sb1 := sb.1
            have sb2 := sb.2
            unfold spA
            by_cases c : w < 2
            · rw [if_neg (show ¬ (2 : Int32) ≤ i32 w from fun z => by have := (i32_le (a := 2) ⟨by decide, by decide⟩ bw).mp z; omega)]
              obtain ⟨k4, G4, H4⟩ := c_tellNumber S2'.1 co2.k90 (fun y e => by rw [← Option.some.inj e]; exact ⟨⟨by show -4611686018427387904 ≤ d.1.num; omega, by show d.1.num ≤ 4611686018427387904; omega⟩, ⟨by show -4611686018427387904 ≤ (d.1.den : Int) * 60; omega, by show (d.1.den : Int) * 60 ≤ 4611686018427387904; omega⟩⟩) bw
              refine ⟨_, k4, g3, by rw [G4, bd_some], FF.tr (H4.mono (fun _ _ z => AR_cs (by decide) (by decide) z)), ?_, (f0.tr fm).tr F3⟩
              simp only [if_pos c]
              rw [prt_tel h3, if_pos c]
              rfl
            · rw [if_pos (show (2 : Int32) ≤ i32 w from (i32_le (a := 2) ⟨by decide, by decide⟩ bw).mpr (by omega)), co2.r2_11, if_pos co2.k88, su, i64_of32 ⟨by omega, by omega⟩, o64]
              obtain ⟨k4, G4, R4, H4⟩ := c_assign (h := k2) (r := 88) (n := d.2) (d := 1) ⟨by omega, by omega⟩ ⟨by decide, by decide⟩ (by decide) co2.k88
              rw [rat_1] at R4
              obtain ⟨k5, G5, H5⟩ := c_tellNumber (w := w - 2) R4 (by rw [H4.ekc]; exact co2.k88) (fun y e => by rw [← Option.some.inj e]; exact ⟨⟨by show -4611686018427387904 ≤ d.2; omega, by show d.2 ≤ 4611686018427387904; omega⟩, ⟨by show -4611686018427387904 ≤ ((1 : Nat) : Int) * 60; decide, by show ((1 : Nat) : Int) * 60 ≤ 4611686018427387904; decide⟩⟩) ⟨by omega, by omega⟩
              refine ⟨_, k5, g3, by rw [G4, bd_some, H4.ehR, co2.r2_11, two32, i32_sub, G5, bd_some], (FF.tr (H4.mono (fun _ _ z => AR_cs (by decide) (by decide) z))).tr (H5.mono (fun _ _ z => AR_cs (by decide) (by decide) z)), ?_, (f0.tr fm).tr F3⟩
              simp only [if_neg c]
              rw [prt_tel h3, if_neg c]
              rfl
        · simp only [if_pos h1, if_pos h1', if_pos h2, if_neg h3, l1, l2]
          refine ⟨_, h, _, ?_, Fr.rf h, rfl, thr0 h'⟩
          by_cases c1 : w < 0
          · rw [if_pos c1]
          · rw [if_neg c1, if_neg (by omega)]
      · simp only [if_pos h1, if_pos h1', if_neg h2]
        exact ⟨_, h, _, rfl, Fr.rf h, rfl, thr0 h'⟩
    · simp only [if_pos h1, if_neg h1']
      exact ⟨_, h, _, rfl, Fr.rf h, rfl, thr0 h'⟩
  · simp only [if_neg h1]
    exact ⟨_, h, _, rfl, Fr.rf h, rfl, thr0 h'⟩
end SP
