/-! BOTH SIDES ASKED -/
def CSc (r k : Nat) : Prop := (88 ≤ r ∧ r ≤ 93) ∨ (r = 2 ∧ k = 14)
def CI0 (h : xH) (cur : Nat → List Kn) : Prop := Co h ∧ ∀ i, i < 7 → ∃ cap, ShK h (hR h 3 i) cap (cur i)
def MI0 (h : xH) (cur : Nat → List Kn) : Prop := Mo h ∧ (∀ i, i < 6 → Rwi h i (cur i)) ∧ Kp h (cur 6)
def PaB (ks : List Kn) : Prop := ks.length ≤ 1600 ∧ ∀ k ∈ ks, (-4611686018427387904 ≤ k.1.num ∧ k.1.num ≤ 4611686018427387904) ∧ (k.1.den : Int) ≤ 70000000000000000 ∧ (-4611686018427387904 ≤ k.2.1.num ∧ k.2.1.num ≤ 4611686018427387904) ∧ (k.2.1.den : Int) ≤ 70000000000000000
def CurOk (cur : Nat → List Kn) : Prop := (∀ i, i < 6 → Can (cur i)) ∧ PaB (cur 6) ∧ ∃ L n, PaperIs L n (cur 6)
def Ag {α : Type} (cur : Nat → List Kn) (f g : xH → Option (α × xH)) : Prop := ∀ h h', CI0 h cur → MI0 h' cur → ∃ r h1 h2, f h = some (r, h1) ∧ Fr CSc h h1 ∧ g h' = some (r, h2) ∧ Fr MSc h' h2
theorem bzd {α : Type} (p : Prop) (_ : Decidable p) (x y : α) : (if bz (decide p) = 0 then x else y) = if p then y else x := by
  by_cases c : p
  · rw [decide_eq_true c, if_pos c]; rfl
  · rw [decide_eq_false c, if_neg c]; rfl
theorem c_isStore {a : Int} (ha : B32 a) (h : xH) : fX6_isStore (i32 a) h = some (bz (decide (0 ≤ a ∧ a ≤ 5)), h) := by
  unfold fX6_isStore
  rw [z32, show (6 : Int32) = i32 6 from rfl]
  by_cases c1 : a < 0
  · rw [if_pos ((i32_lt ha ⟨by decide, by decide⟩).mpr c1), decide_eq_false (by omega)]; rfl
  · rw [if_neg (fun z => c1 ((i32_lt ha ⟨by decide, by decide⟩).mp z))]
    by_cases c2 : 6 ≤ a
    · rw [if_pos ((i32_le ⟨by decide, by decide⟩ ha).mpr c2), decide_eq_false (by omega)]; rfl
    · rw [if_neg (fun z => c2 ((i32_le ⟨by decide, by decide⟩ ha).mp z)), decide_eq_true (by omega)]; rfl
theorem c_isPlace {a : Int} (ha : B64 a) (h : xH) : fX6_isPlace (i64 a) h = some (bz (decide (-5940 ≤ a ∧ a ≤ 5940)), h) := by
  unfold fX6_isPlace
  rw [show (-5940 : Int64) = i64 (-5940) from rfl, show (5940 : Int64) = i64 5940 from rfl]
  by_cases c1 : a < -5940
  · rw [if_pos ((lz_lt ha ⟨by decide, by decide⟩).mpr c1), decide_eq_false (by omega)]; rfl
  · rw [if_neg (fun z => c1 ((lz_lt ha ⟨by decide, by decide⟩).mp z))]
    by_cases c2 : 5940 < a
    · rw [if_pos ((lz_gt ha ⟨by decide, by decide⟩).mpr c2), decide_eq_false (by omega)]; rfl
    · rw [if_neg (fun z => c2 ((lz_gt ha ⟨by decide, by decide⟩).mp z)), decide_eq_true (by omega)]; rfl
theorem c_isUL {a : Int} (ha : B32 a) (h : xH) : fX6_isUpperOrLower (i32 a) h = some (bz (decide (0 ≤ a ∧ a ≤ 1)), h) := by
  unfold fX6_isUpperOrLower fX6_isUpperOrLower_b9
  rw [z32, one32]
  by_cases c1 : a = 0
  · rw [if_pos (by rw [c1]), decide_eq_true (by omega)]; rfl
  · rw [if_neg (fun z => c1 ((i32_eq ha ⟨by decide, by decide⟩).mp z))]
    by_cases c2 : a = 1
    · rw [if_pos (by rw [c2]), decide_eq_true (by omega)]; rfl
    · rw [if_neg (fun z => c2 ((i32_eq ha ⟨by decide, by decide⟩).mp z)), decide_eq_false (by omega)]; rfl
section AS
variable {h : xH} {cur : Nat → List Kn}
theorem CI0.s (I : CI0 h cur) {i : Nat} (hi : i < 7) : ix (i32 (i : Int)) (kl h 3) ∧ (i32 (i : Int)).toNatClampNeg = i := by
  rw [I.1.l3]
  exact ⟨ix_i (by omega) (by omega) (by decide), nat_i i (by omega)⟩
theorem Fr.m {α : Type} {h' : xH} (v : α) (f : Fr MSc h h') : ∃ h2, some (v, h') = some (v, h2) ∧ Fr MSc h h2 := ⟨h', rfl, f⟩
theorem thr0 (h : xH) : Fr MSc h (sI h 220 0 0) := Fr.I _ (Or.inr ⟨rfl, Or.inl rfl⟩)
theorem AR_cs {r r' k : Nat} (h1 : 88 ≤ r) (h2 : r ≤ 93) (z : AR r r' k) : CSc r' k := Or.inl ⟨by rw [z.1]; exact h1, by rw [z.1]; exact h2⟩
theorem MI0.fr {h' : xH} (I : MI0 h cur) (f : Fr MSc h h') : MI0 h' cur := by
  refine ⟨f.mo I.1, fun i hi => (I.2.1 i hi).fr f MSc_222, ?_, ?_⟩
  · intro i k e
    have := I.2.2.1 i k e
    have n3 : ∀ k, ¬ MSc 223 k := fun k => by unfold MSc; omega
    have n4 : ∀ k, ¬ MSc 224 k := fun k => by unfold MSc; omega
    rw [(f.2.2 223 _ (n3 _)).2, (f.2.2 223 _ (n3 _)).2, (f.2.2 223 _ (n3 _)).2, (f.2.2 223 _ (n3 _)).2, (f.2.2 224 _ (n4 _)).1]
    exact this
  · rw [(f.2.2 220 4 (by unfold MSc; omega)).1]; exact I.2.2.2
theorem VB.q {v : Option Rat} (b : VB v) : ∀ x, v = some x → Q x.num ∧ Q ((x.den : Int) * 60) := by
  intro x e
  have := b x e
  exact ⟨⟨by omega, by omega⟩, ⟨by omega, by omega⟩⟩
/-! value -/
theorem Q_value (C : CurOk cur) (a b c : Int32) : Ag cur (fX6_value 2 a b c) (fX7_value 220 a b c) := by
  obtain ⟨i, bi, rfl⟩ := i32_ex a
  obtain ⟨x, bx, rfl⟩ := i32_ex b
  obtain ⟨w, bw, rfl⟩ := i32_ex c
  intro h h' I J
  have Bx : B64 x := ⟨by have := bx.1; omega, by have := bx.2; omega⟩
  have Bw : B64 w := ⟨by have := bw.1; omega, by have := bw.2; omega⟩
  unfold fX6_value fX7_value
  simp only [if_pos J.1.k220, lt_def, c_isStore bi, m_isStore bi, bd_some, bzd, i64_of32 bx, i64_of32 bw, c_isPlace Bx, m_isPlace Bx, c_isUL bw, z64, o64, m_in (b := 0) (c := 1) Bw ⟨by decide, by decide⟩ ⟨by decide, by decide⟩]
  by_cases h1 : 0 ≤ i ∧ i ≤ 5
  · by_cases h2 : -5940 ≤ x ∧ x ≤ 5940
    · by_cases h3 : 0 ≤ w ∧ w ≤ 1
      · simp only [if_pos h1, if_pos h2, if_pos h3]
        obtain ⟨n, rfl⟩ : ∃ n : Nat, i = n := ⟨i.toNat, by omega⟩
        have hn : n < 6 := by omega
        obtain ⟨O, -⟩ := C.1 n hn
        obtain ⟨cap, W⟩ := I.2 n (by omega)
        have co := I.1
        have sl := I.s (show n < 7 by omega)
        obtain ⟨g1, v1, E1, R1, V1, B1, F1⟩ := c_valueAt W O.2.1 O.2.2 co.k88 (x := x) (by omega)
        obtain ⟨g2, E2, F2⟩ := c_tellNumber R1 (by rw [F1.ekc]; exact co.k88) B1.q bw
        have f0 := thr0 h'
        obtain ⟨g3, v3, E3, V3, N3, F3⟩ := m_hasValue (f0.mo J.1) hn O ((J.2.1 n hn).fr f0 MSc_222) (x := x) (by omega)
        have F3 := F3.mono (B := MSc) (fun _ _ z => MSv_ms z)
        have ev := IsV_one V1 V3
        subst ev
        have fr1 : Fr CSc h g2 := (F1.mono (fun _ _ z => AR_cs (by decide) (by decide) z)).tr (F2.mono (fun _ _ z => AR_cs (by decide) (by decide) z))
        have ec : (if kc h 2 = 6 then if kc h (hR h 2 0) = 12 then if ix (i32 (n : Int)) (kl h (hR h 2 0)) then if kc h (hR h (hR h 2 0) (i32 (n : Int)).toNatClampNeg) = 4 then bd (fX4_valueAt (hR h (hR h 2 0) (i32 (n : Int)).toNatClampNeg) (i32 x) (hR h 2 11) h) (fun _ g14 => bd (fX6_tellNumber (hR g14 2 11) (i32 w) g14) (fun w19 g17 => some (w19, g17))) else none else none else none else none) = some (i64 (tel (s60 v1) w), g2) := by
          rw [if_pos co.k2, co.r2_0, if_pos co.k3, if_pos sl.1, sl.2, if_pos W.1.1, co.r2_11, E1, bd_some, F1.ehR, co.r2_11, E2, bd_some]
        rw [ec, E3, bd_some]
        cases v1 with
        | none =>
          exact ⟨_, g2, g3, rfl, fr1, by rw [if_pos (by rfl)]; rfl, f0.tr F3⟩
        | some y =>
          obtain ⟨nn, d, e1, e2, b1, d0, d1, ey⟩ := N3 y rfl
          refine ⟨_, g2, g3, rfl, fr1, ?_, f0.tr F3⟩
          rw [if_neg (show ¬ bz (some y).isSome = 0 from bzt0), e1, e2, show (60 : Int64) = i64 60 from rfl, i64_mul, m_part (n := nn) (d := 60 * d) ⟨by omega, by omega⟩ ⟨by omega, by omega⟩ (by omega) (by omega) g3, bd_some, q60 d0, ← ey, prt_tel (by omega), if_pos (by omega)]
          rfl
      · simp only [if_pos h1, if_pos h2, if_neg h3]
        exact ⟨_, h, _, rfl, Fr.rf h, rfl, thr0 h'⟩
    · simp only [if_pos h1, if_neg h2]
      exact ⟨_, h, _, rfl, Fr.rf h, rfl, thr0 h'⟩
  · simp only [if_neg h1]
    exact ⟨_, h, _, rfl, Fr.rf h, rfl, thr0 h'⟩
/-! limit -/
theorem Q_limit (C : CurOk cur) (a b c : Int32) : Ag cur (fX6_limit 2 a b c) (fX7_limit 220 a b c) := by
  obtain ⟨i, bi, rfl⟩ := i32_ex a
  obtain ⟨x, bx, rfl⟩ := i32_ex b
  obtain ⟨w, bw, rfl⟩ := i32_ex c
  intro h h' I J
  have Bx : B64 x := ⟨by have := bx.1; omega, by have := bx.2; omega⟩
  have Bw : B64 w := ⟨by have := bw.1; omega, by have := bw.2; omega⟩
  unfold fX6_limit fX7_limit
  simp only [if_pos J.1.k220, lt_def, c_isStore bi, m_isStore bi, bd_some, bzd, i64_of32 bx, i64_of32 bw, c_isPlace Bx, m_isPlace Bx, z64, show (3 : Int64) = i64 3 from rfl, m_in (b := 0) (c := 3) Bw ⟨by decide, by decide⟩ ⟨by decide, by decide⟩]
  by_cases h1 : 0 ≤ i ∧ i ≤ 5
  · by_cases h2 : -5940 ≤ x ∧ x ≤ 5940
    · by_cases h3 : 0 ≤ w ∧ w ≤ 3
      · have c1 : ¬ i32 w < 0 := fun z => by have := (i32_lt bw (b := 0) ⟨by decide, by decide⟩).mp z; omega
        have c2 : i32 w ≤ 3 := (i32_le bw (b := 3) ⟨by decide, by decide⟩).mpr (by omega)
        simp only [if_pos h1, if_pos h2, if_pos h3, if_neg c1, if_pos c2]
        obtain ⟨n, rfl⟩ : ∃ n : Nat, i = n := ⟨i.toNat, by omega⟩
        have hn : n < 6 := by omega
        obtain ⟨O, -⟩ := C.1 n hn
        obtain ⟨cap, W⟩ := I.2 n (by omega)
        have co := I.1
        have sl := I.s (show n < 7 by omega)
        have f0 := thr0 h'
        obtain ⟨g3, E3, w3, F3⟩ := m_own (f0.mo J.1) hn O ((J.2.1 n hn).fr f0 MSc_222)
        have F3 := F3.mono (B := MSc) (fun _ _ z => MSv_ms z)
        obtain ⟨v3, E4, V3⟩ := m_lm49 (x := x) (w := w) O (by omega) h3 (F3.mo (f0.mo J.1)) w3 (spL (cur n)).length 0 FU (by omega) (by rw [FU_eq]; have := sp_len (cur n); have := O.1; omega) (fun j hj => by omega)
        have E4' : fX7_limit_l49 FU 220 (i32 x) (i32 w) 0 g3 = some (i64 (tel (s60 v3) (if w < 2 then w else w - 2)), g3) := E4
        rw [E3, bd_some, E4']
        by_cases c3 : w < 2
        · have c4 : ¬ (2 : Int32) ≤ i32 w := fun z => by have := (i32_le (a := 2) ⟨by decide, by decide⟩ bw).mp z; omega
          obtain ⟨g1, v1, E1, R1, V1, B1, F1⟩ := c_leftEndAt W O.2.1 O.2.2 co.k88 (x := x) (by omega)
          obtain ⟨g2, E2, F2⟩ := c_tellNumber R1 (by rw [F1.ekc]; exact co.k88) B1.q bw
          rw [decide_eq_true c3] at V3
          have ev := IsC_one O.2.2 V1 V3
          subst ev
          rw [if_pos c3]
          refine ⟨_, g2, g3, ?_, (F1.mono (fun _ _ z => AR_cs (by decide) (by decide) z)).tr (F2.mono (fun _ _ z => AR_cs (by decide) (by decide) z)), rfl, f0.tr F3⟩
          rw [if_neg c4, if_pos co.k2, co.r2_0, if_pos co.k3, if_pos sl.1, sl.2, if_pos W.1.1, co.r2_11, E1, bd_some, F1.ehR, co.r2_11, E2, bd_some]
        · have c4 : (2 : Int32) ≤ i32 w := (i32_le (a := 2) ⟨by decide, by decide⟩ bw).mpr (by omega)
          obtain ⟨g1, v1, E1, R1, V1, B1, F1⟩ := c_rightBeginAt W O.2.1 O.2.2 co.k88 (x := x) (by omega)
          obtain ⟨g2, E2, F2⟩ := c_tellNumber (w := w - 2) R1 (by rw [F1.ekc]; exact co.k88) B1.q ⟨by omega, by omega⟩
          rw [decide_eq_false c3] at V3
          have ev := IsC_one O.2.2 V1 V3
          subst ev
          rw [if_neg c3]
          refine ⟨_, g2, g3, ?_, (F1.mono (fun _ _ z => AR_cs (by decide) (by decide) z)).tr (F2.mono (fun _ _ z => AR_cs (by decide) (by decide) z)), rfl, f0.tr F3⟩
          rw [if_pos c4, if_pos co.k2, co.r2_0, if_pos co.k3, if_pos sl.1, sl.2, if_pos W.1.1, co.r2_11, E1, bd_some, F1.ehR, co.r2_11, two32, i32_sub, E2, bd_some]
      · simp only [if_pos h1, if_pos h2, if_neg h3]
        refine ⟨_, h, _, ?_, Fr.rf h, rfl, thr0 h'⟩
        by_cases c1 : w < 0
        · rw [if_pos (show i32 w < 0 from (i32_lt bw (b := 0) ⟨by decide, by decide⟩).mpr c1)]
        · rw [if_neg (show ¬ i32 w < 0 from fun z => c1 ((i32_lt bw (b := 0) ⟨by decide, by decide⟩).mp z)), if_neg (show ¬ i32 w ≤ 3 from fun z => by have := (i32_le bw (b := 3) ⟨by decide, by decide⟩).mp z; omega)]
    · simp only [if_pos h1, if_neg h2]
      exact ⟨_, h, _, rfl, Fr.rf h, rfl, thr0 h'⟩
  · simp only [if_neg h1]
    exact ⟨_, h, _, rfl, Fr.rf h, rfl, thr0 h'⟩
end AS
