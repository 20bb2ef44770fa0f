/-! where: the reference; both -/
section WH
variable {h : xH} {ks : List Kn} {y : Int} {b : Option Rat}
def A47 (r k : Nat) : Prop := r = 220 ∧ (k = 47 ∨ k = 48 ∨ k = 49)
theorem A47_ms {r k : Nat} (z : A47 r k) : MSc r k := by unfold A47 at z; unfold MSc; omega
theorem A47_n : (∀ k, ¬ A47 235 k ∧ ¬ A47 236 k ∧ ¬ A47 237 k ∧ ¬ A47 238 k ∧ ¬ A47 239 k) ∧ ¬ A47 220 19 ∧ ∀ k, ¬ A47 222 k := ⟨fun k => by unfold A47; omega, by unfold A47; omega, fun k => by unfold A47; omega⟩
/-- fractions as they come, not in lowest terms -/
def PD (P D : Int) : Prop := (-400000000 ≤ P ∧ P ≤ 400000000) ∧ 0 < D ∧ D ≤ 12000
theorem own_q (O : StO ks) {P D : Int} (hp : PD P D) {m : Nat} (hm : m < (spL ks).length) : Q (lnA (ownL ks m) * D + lnB (ownL ks m) * P) ∧ 0 < lnC (ownL ks m) * D ∧ Q (lnC (ownL ks m) * D) ∧ ((lnA (ownL ks m) * D + lnB (ownL ks m) * P : Int) : Rat) / ((lnC (ownL ks m) * D : Int) : Rat) = vl (ownL ks m) ((P : Rat) / (D : Rat)) := by
  have bb := (own_bd O.2.1 O.2.2 hm).1
  obtain ⟨p1, p2, p3⟩ := hp
  have m1 := mul_bd (a := lnA (ownL ks m)) (b := D) (A := 200000000) (B := 12000) bb.1 ⟨by omega, by omega⟩
  have m2 := mul_bd (a := lnB (ownL ks m)) (b := P) (A := 12000) (B := 400000000) bb.2.1 p1
  have m3 := mul_bd (a := lnC (ownL ks m)) (b := D) (A := 12000) (B := 12000) ⟨by have := bb.2.2; omega, bb.2.2.2⟩ ⟨by omega, by omega⟩
  have m4 : 0 < lnC (ownL ks m) * D := Int.mul_pos bb.2.2.1 p2
  refine ⟨⟨by omega, by omega⟩, m4, ⟨by omega, by omega⟩, ?_⟩
  have d1 : (lnC (ownL ks m) : Rat) ≠ 0 := by
    intro z
    have z2 : lnC (ownL ks m) = 0 := by exact_mod_cast z
    have := bb.2.2.1; omega
  have d2 : (D : Rat) ≠ 0 := by
    intro z
    have z2 : D = 0 := by exact_mod_cast z
    omega
  unfold vl ic sl
  rw [Rat.intCast_add, Rat.intCast_mul, Rat.intCast_mul, Rat.intCast_mul]
  grind
theorem m_lap (q : Mo h) (O : StO ks) (w : OwI h ks) {P D : Int} (hp : PD P D) : ∀ (d k m : Nat) (c : Int), k + d = (spL ks).length → d < m → LstB (ownL ks) k ((P : Rat) / (D : Rat)) c → ∃ c', fX7_leastAt_l6 m 220 (i64 P) (i64 D) (i32 c) (i32 (k : Int)) h = some (i32 c', h) ∧ LstB (ownL ks) (spL ks).length ((P : Rat) / (D : Rat)) c' := by
  have l1 := sp_len ks
  have l2 := O.1
  obtain ⟨p1, p2, p3⟩ := id hp
  have o1 : (0 : Int) < 1 := by decide
  intro d
  induction d with
  | zero =>
    intro k m c hk hm u
    obtain ⟨m, rfl⟩ : ∃ k, m = k + 1 := ⟨m - 1, by omega⟩
    refine ⟨c, ?_, by rw [← hk]; exact u⟩
    show fX7_leastAt_b6 _ _ _ _ _ _ _ = _
    unfold fX7_leastAt_b6
    rw [if_pos q.k220, w.2, if_pos (by rw [show k = (spL ks).length by omega]; exact Int32.le_refl _)]
  | succ d ih =>
    intro k m c hk hm u
    obtain ⟨m, rfl⟩ : ∃ k, m = k + 1 := ⟨m - 1, by omega⟩
    show ∃ c', fX7_leastAt_b6 _ _ _ _ _ _ _ = _ ∧ _
    have hkl : k < (spL ks).length := by omega
    have e1 := nat_i k (by omega)
    have x1 : ix (i32 (k : Int)) 700 := ix_i (by omega) (by omega) (by decide)
    have wk := w.1 k hkl
    have bk := (own_bd O.2.1 O.2.2 hkl).2
    have mF : fX7_lie (i64 (lnF (ownL ks k))) (1 : Int64) (i64 P) (i64 D) h = some (i32 (sg (lnF (ownL ks k) * D - P * 1)), h) := m_lie h ⟨by omega, by omega⟩ o1 ⟨by decide, by decide⟩ ⟨by omega, by omega⟩ p2 ⟨by omega, by omega⟩
    have mT : fX7_lie (i64 (lnT (ownL ks k))) (1 : Int64) (i64 P) (i64 D) h = some (i32 (sg (lnT (ownL ks k) * D - P * 1)), h) := m_lie h ⟨by omega, by omega⟩ o1 ⟨by decide, by decide⟩ ⟨by omega, by omega⟩ p2 ⟨by omega, by omega⟩
    have sF : 0 < sg (lnF (ownL ks k) * D - P * 1) ↔ (P : Rat) / (D : Rat) < (lnF (ownL ks k) : Rat) := by rw [sq_gt o1 p2, rat_1]
    have sT : sg (lnT (ownL ks k) * D - P * 1) < 0 ↔ (lnT (ownL ks k) : Rat) < (P : Rat) / (D : Rat) := by rw [sq_lt o1 p2, rat_1]
    generalize ex : (P : Rat) / (D : Rat) = x at *
    unfold fX7_leastAt_b6
    rw [if_pos q.k220, w.2, if_neg (nle32 hkl (by omega))]
    simp only [q.r20, q.r21, q.k235, q.k236, q.l235, q.l236, if_pos x1, e1, wk.1, wk.2.1, i64_of32 (z := lnF (ownL ks k)) ⟨by omega, by omega⟩, i64_of32 (z := lnT (ownL ks k)) ⟨by omega, by omega⟩, mF, mT, bd_some, reduceIte]
    unfold fX7_leastAt_b53 fX7_leastAt_b54 fX7_leastAt_b85 fX7_leastAt_b80 fX7_leastAt_b87
    have nx : ∀ v : Int32, (lt (i32 (k : Int) + 1) fun v1 => fX7_leastAt_l6 m 220 (i64 P) (i64 D) v v1 h) = fX7_leastAt_l6 m 220 (i64 P) (i64 D) v (i32 ((k + 1 : Nat) : Int)) h := by
      intro v; rw [lt_def, one32, i32_add]; rfl
    by_cases c1 : x < (lnF (ownL ks k) : Rat)
    · rw [if_pos ((si_gt _).mpr (sF.mpr c1)), if_pos rfl, nx]
      exact ih (k + 1) m c (by omega) (by omega) (u.skip (fun z => by have := z.1; grind))
    · rw [if_neg (fun z => c1 (sF.mp ((si_gt _).mp z)))]
      by_cases c2 : (lnT (ownL ks k) : Rat) < x
      · rw [if_pos ((si_lt _).mpr (sT.mpr c2)), if_pos rfl, nx]
        exact ih (k + 1) m c (by omega) (by omega) (u.skip (fun z => by have := z.2; grind))
      · rw [if_neg (fun z => c2 (sT.mp ((si_lt _).mp z))), if_neg (by decide)]
        have ck : cov (ownL ks) x k := ⟨by grind, by grind⟩
        rcases u with ⟨e0, u⟩ | ⟨o, e0, ho, co, u⟩
        · rw [if_pos (by rw [e0]; rfl), nx]
          refine ih (k + 1) m k (by omega) (by omega) (Or.inr ⟨k, rfl, by omega, ck, fun j hj cj => ?_⟩)
          by_cases z : j = k
          · rw [z]; grind
          · exact absurd cj (u j (by omega))
        · rw [if_neg (fun z => by rw [m1_32] at z; have := (i32_eq ⟨by omega, by omega⟩ ⟨by omega, by omega⟩).mp z; omega), if_pos q.k220, e0]
          have hol : o < (spL ks).length := by omega
          obtain ⟨q1, q2, q3, q4⟩ := own_q O hp hkl
          obtain ⟨r1, r2, r3, r4⟩ := own_q O hp hol
          rw [ex] at q4 r4
          have E : fX7_lieAt 220 (i32 (k : Int)) (i32 (o : Int)) (i64 P) (i64 D) h = some (i32 (sg ((lnA (ownL ks k) * D + lnB (ownL ks k) * P) * (lnC (ownL ks o) * D) - (lnA (ownL ks o) * D + lnB (ownL ks o) * P) * (lnC (ownL ks k) * D))), h) := by
            unfold fX7_lieAt
            have e2 := nat_i o (by omega)
            have x2 : ix (i32 (o : Int)) 700 := ix_i (by omega) (by omega) (by decide)
            have wo := w.1 o hol
            simp only [q.k220, q.r22, q.r23, q.r24, q.k237, q.k238, q.k239, q.l237, q.l238, q.l239, e1, e2, if_pos x1, if_pos x2, wk.2.2.1, wk.2.2.2.1, wk.2.2.2.2, wo.2.2.1, wo.2.2.2.1, wo.2.2.2.2, i64_mul, i64_add, reduceIte]
            rw [m_lie h q1 q2 q3 r1 r2 r3, bd_some]
          have A : sg ((lnA (ownL ks k) * D + lnB (ownL ks k) * P) * (lnC (ownL ks o) * D) - (lnA (ownL ks o) * D + lnB (ownL ks o) * P) * (lnC (ownL ks k) * D)) < 0 ↔ vl (ownL ks k) x < vl (ownL ks o) x := by rw [sq_lt q2 r2, q4, r4]
          rw [E, bd_some, nx, nx]
          by_cases c3 : vl (ownL ks k) x < vl (ownL ks o) x
          · rw [if_neg (fun z => by have := A.mpr c3; have := (si_ge _).mp z; omega)]
            refine ih (k + 1) m k (by omega) (by omega) (Or.inr ⟨k, rfl, by omega, ck, fun j hj cj => ?_⟩)
            by_cases z : j = k
            · rw [z]; grind
            · have := u j (by omega) cj; grind
          · rw [if_pos ((si_ge _).mpr (by
              apply Classical.byContradiction
              intro z
              exact c3 (A.mp (by omega))))]
            refine ih (k + 1) m o (by omega) (by omega) (Or.inr ⟨o, rfl, by omega, co, fun j hj cj => ?_⟩)
            by_cases z : j = k
            · rw [z]; grind
            · exact u j (by omega) cj
def mn (p : Rat) (b : Option Rat) : Option Rat := match b with
  | none => some p
  | some r => if p < r then some p else some r
def WsM (h : xH) (b : Option Rat) : Prop := hI h 220 49 = bz (!b.isSome) ∧ ∀ p, b = some p → ∃ P D : Int, hJ h 220 47 = i64 P ∧ hJ h 220 48 = i64 D ∧ PD P D ∧ p = (P : Rat) / (D : Rat)
theorem m_meets (q : Mo h) (O : StO ks) (w : OwI h ks) (hy : -5940 ≤ y ∧ y ≤ 5940) {P D : Int} (hp : PD P D) (S : WsM h b) : ∃ h' b', fX7_meets 220 (i64 P) (i64 D) (i32 y) h = some ((), h') ∧ WsM h' b' ∧ Fr A47 h h' ∧ ((IsV ks ((P : Rat) / (D : Rat)) (some (y : Rat)) ∧ b' = mn ((P : Rat) / (D : Rat)) b) ∨ (¬ IsV ks ((P : Rat) / (D : Rat)) (some (y : Rat)) ∧ b' = b)) := by
  have l1 := sp_len ks
  have l2 := O.1
  obtain ⟨p1, p2, p3⟩ := id hp
  obtain ⟨c', E1, B1⟩ := m_lap q O w hp (spL ks).length 0 FU (-1) (by omega) (by rw [FU_eq]; omega) (Or.inl ⟨rfl, fun m hm => by omega⟩)
  have E1' : fX7_leastAt 220 (i64 P) (i64 D) h = some (i32 c', h) := by
    unfold fX7_leastAt
    rw [lt_def, lt_def]
    exact E1
  unfold fX7_meets
  rw [if_pos q.k220, E1', bd_some]
  rcases B1 with ⟨e0, hno⟩ | ⟨o, e0, ho, hc, hm⟩
  · rw [e0, if_pos (by rfl)]
    refine ⟨h, b, rfl, S, Fr.rf h, Or.inr ⟨fun z => ?_, rfl⟩⟩
    obtain ⟨⟨m, hm, hcm, _⟩, _⟩ := z
    exact hno m hm hcm
  · have iv : IsV ks ((P : Rat) / (D : Rat)) (some (vl (ownL ks o) ((P : Rat) / (D : Rat)))) := ⟨⟨o, ho, hc, rfl⟩, fun m h1 h2 => hm m h1 h2⟩
    have n1 : ¬ i32 c' = -1 := by
      rw [e0, m1_32]
      intro z
      have := (i32_eq (a := (o : Int)) (b := -1) ⟨by omega, by omega⟩ ⟨by decide, by decide⟩).mp z
      omega
    have x0 : ix (i32 c') 700 := by rw [e0]; exact ix_i (by omega) (by omega) (by decide)
    have n0 : (i32 c').toNatClampNeg = o := by rw [e0]; exact nat_i o (by omega)
    have wo := w.1 o ho
    obtain ⟨r1, r2, r3, r4⟩ := own_q O hp ho
    have o1 : (0 : Int) < 1 := by decide
    simp only [if_neg n1, q.k220, q.r22, q.r23, q.r24, q.k237, q.k238, q.k239, q.l237, q.l238, q.l239, if_pos x0, n0, wo.2.2.1, wo.2.2.2.1, wo.2.2.2.2, i64_mul, i64_add, reduceIte, i64_of32 (z := y) ⟨by omega, by omega⟩, o64]
    rw [m_lie (c := y) (d := 1) h r1 r2 r3 ⟨by omega, by omega⟩ o1 ⟨by decide, by decide⟩, bd_some]
    have se : (i32 (sg ((lnA (ownL ks o) * D + lnB (ownL ks o) * P) * 1 - y * (lnC (ownL ks o) * D))) = 0) ↔ vl (ownL ks o) ((P : Rat) / (D : Rat)) = (y : Rat) := by rw [si_eq, sq_eq r2 o1, r4, rat_1]
    by_cases c : vl (ownL ks o) ((P : Rat) / (D : Rat)) = (y : Rat)
    · rw [if_pos (se.mpr c)]
      rw [c] at iv
      have b76 : ∃ h', fX7_meets_b76 220 (i64 P) (i64 D) h = some ((), h') ∧ WsM h' (some ((P : Rat) / (D : Rat))) ∧ Fr A47 h h' := by
        refine ⟨sI (sJ (sJ h 220 47 (i64 P)) 220 48 (i64 D)) 220 49 0, ?_, ⟨by simp [hI_sI, bz], fun p e2 => ⟨P, D, by simp [hJ_sI, hJ_sJ], by simp [hJ_sI, hJ_sJ], hp, (Option.some.inj e2).symm⟩⟩, ((Fr.J _ ⟨rfl, by omega⟩).tr (Fr.J _ ⟨rfl, by omega⟩)).tr (Fr.I _ ⟨rfl, by omega⟩)⟩
        unfold fX7_meets_b76 fX7_meets_b86
        simp only [q.k220, kc_sJ, lt_def, reduceIte]
      obtain ⟨g1, G1, S1, F1⟩ := b76
      rw [S.1]
      cases b with
      | none =>
        rw [if_neg (show ¬ bz (!(none : Option Rat).isSome) = 0 from bzt0)]
        exact ⟨g1, _, G1, S1, F1, Or.inl ⟨iv, rfl⟩⟩
      | some r =>
        obtain ⟨P', D', e3, e4, hp', er⟩ := S.2 r rfl
        obtain ⟨t1, t2, t3⟩ := id hp'
        rw [if_pos (show bz (!(some r).isSome) = 0 from rfl), e3, e4, m_lie (a := P) (b := D) (c := P') (d := D') h ⟨by omega, by omega⟩ p2 ⟨by omega, by omega⟩ ⟨by omega, by omega⟩ t2 ⟨by omega, by omega⟩, bd_some]
        have sg' : (0 ≤ i32 (sg (P * D' - P' * D))) ↔ r ≤ (P : Rat) / (D : Rat) := by rw [si_ge, sq_ge p2 t2, er]
        by_cases c4 : (P : Rat) / (D : Rat) < r
        · rw [if_neg (fun z => by have := sg'.mp z; grind)]
          exact ⟨g1, _, G1, S1, F1, Or.inl ⟨iv, (if_pos c4).symm⟩⟩
        · rw [if_pos (sg'.mpr (by grind))]
          refine ⟨sI h 220 49 0, some r, ?_, ⟨by simp [hI_sI, bz], fun p e2 => ?_⟩, Fr.I _ ⟨rfl, by omega⟩, Or.inl ⟨iv, (if_neg c4).symm⟩⟩
          · unfold fX7_meets_b86; rw [if_pos q.k220, lt_def]
          · have := S.2 p e2; exact this
    · rw [if_neg (fun z => c (se.mp z))]
      exact ⟨h, b, rfl, S, Fr.rf h, Or.inr ⟨fun z => c (Option.some.inj (IsV_one iv z)), rfl⟩⟩
def Bst (T : Rat → Prop) (b : Option Rat) : Prop := match b with
  | none => ∀ p, ¬ T p
  | some m => T m ∧ ∀ p, T p → m ≤ p
theorem Bst.cong {T T' : Rat → Prop} (w : Bst T b) (he : ∀ p, T' p ↔ T p) : Bst T' b := by
  cases b with
  | none => exact fun p z => w p ((he p).mp z)
  | some m => exact ⟨(he m).mpr w.1, fun p z => w.2 p ((he p).mp z)⟩
theorem Bst.add {T : Rat → Prop} {p0 : Rat} (w : Bst T b) : Bst (fun p => T p ∨ p = p0) (mn p0 b) := by
  cases b with
  | none => exact ⟨Or.inr rfl, fun p z => by rcases z with z | z; exact absurd z (w p); rw [z]; grind⟩
  | some m =>
    by_cases c : p0 < m
    · rw [show mn p0 (some m) = some p0 from if_pos c]
      exact ⟨Or.inr rfl, fun p z => by rcases z with z | z; have := w.2 p z; grind; rw [z]; grind⟩
    · rw [show mn p0 (some m) = some m from if_neg c]
      exact ⟨Or.inl w.1, fun p z => by rcases z with z | z; exact w.2 p z; rw [z]; grind⟩
def T1 (ks : List Kn) (y : Int) (k : Nat) (p : Rat) : Prop := ∃ j, j < k ∧ p = (kx ks j : Rat) ∧ IsV ks p (some (y : Rat))
def T2 (ks : List Kn) (y : Int) (k : Nat) (p : Rat) : Prop := T1 ks y ks.length p ∨ ∃ m, m < k ∧ lnB (ownL ks m) ≠ 0 ∧ cov (ownL ks) p m ∧ vl (ownL ks m) p = (y : Rat) ∧ IsV ks p (some (y : Rat))
def whA (b : Option Rat) (w : Int) : Int := match b with
  | none => -9223372036854775808
  | some p => prt (p / 60) w
theorem m_w85 (O : StO ks) (hy : -5940 ≤ y ∧ y ≤ 5940) {w : Int} (hw : 0 ≤ w ∧ w ≤ 1) : ∀ (d k m : Nat) (h : xH) (b : Option Rat), k + d = (spL ks).length → d < m → Mo h → OwI h ks → WsM h b → Bst (T2 ks y k) b → ∃ h' b', fX7_where_l85 m 220 (i32 y) (i32 w) (i32 (k : Int)) h = some (i64 (whA b' w), h') ∧ Fr A47 h h' ∧ Bst (T2 ks y (spL ks).length) b' := by
  have l1 := sp_len ks
  have l2 := O.1
  intro d
  induction d with
  | zero =>
    intro k m h b hk hm q W S B
    obtain ⟨m, rfl⟩ : ∃ k, m = k + 1 := ⟨m - 1, by omega⟩
    refine ⟨h, b, ?_, Fr.rf h, by rw [← show k = (spL ks).length by omega]; exact B⟩
    show fX7_where_b85 _ 220 _ _ _ h = _
    unfold fX7_where_b85
    rw [if_pos q.k220, W.2, if_pos (by rw [show k = (spL ks).length by omega]; exact Int32.le_refl _), S.1]
    cases b with
    | none => rw [if_neg (show ¬ bz (!(none : Option Rat).isSome) = 0 from bzt0)]; rfl
    | some p =>
      obtain ⟨P, D, e3, e4, hp, er⟩ := S.2 p rfl
      obtain ⟨t1, t2, t3⟩ := hp
      rw [if_pos (show bz (!(some p).isSome) = 0 from rfl), e3, e4, show (60 : Int64) = i64 60 from rfl, i64_mul, m_part (n := P) (d := 60 * D) ⟨by omega, by omega⟩ ⟨by omega, by omega⟩ (by omega) ⟨by omega, by omega⟩ h, bd_some, q60 t2, ← er]
      rfl
  | succ d ih =>
    intro k m h b hk hm q W S B
    obtain ⟨m, rfl⟩ : ∃ k, m = k + 1 := ⟨m - 1, by omega⟩
    have hkl : k < (spL ks).length := by omega
    have e1 := nat_i k (by omega)
    have x1 : ix (i32 (k : Int)) 700 := ix_i (by omega) (by omega) (by decide)
    have wk := W.1 k hkl
    obtain ⟨bA, bF, bT, bFT⟩ := own_bd O.2.1 O.2.2 hkl
    obtain ⟨ba, bb, bc, bd0⟩ := bA
    have z0 : B64 0 := ⟨by decide, by decide⟩
    have go : ∀ (h1 : xH) (b1 : Option Rat), Mo h1 → OwI h1 ks → WsM h1 b1 → Bst (T2 ks y (k + 1)) b1 → Fr A47 h h1 → ∃ h' b', fX7_where_b216 (fX7_where_l85 m) 220 (i32 y) (i32 w) (i32 (k : Int)) h1 = some (i64 (whA b' w), h') ∧ Fr A47 h h' ∧ Bst (T2 ks y (spL ks).length) b' := by
      intro h1 b1 q1 W1 S1 B1 F1
      obtain ⟨h2, b2, E2, F2, B2⟩ := ih (k + 1) m h1 b1 (by omega) (by omega) q1 W1 S1 B1
      refine ⟨h2, b2, ?_, F1.tr F2, B2⟩
      unfold fX7_where_b216
      rw [lt_def, one32, i32_add, kp1]
      exact E2
    have same : (∀ p, ¬ (lnB (ownL ks k) ≠ 0 ∧ cov (ownL ks) p k ∧ vl (ownL ks k) p = (y : Rat) ∧ IsV ks p (some (y : Rat)))) → Bst (T2 ks y (k + 1)) b := by
      intro hno
      refine B.cong (fun p => ?_)
      unfold T2
      constructor
      · rintro (z | ⟨j, hj, z⟩)
        · exact Or.inl z
        · by_cases c : j = k
          · rw [c] at z; exact absurd z (hno p)
          · exact Or.inr ⟨j, by omega, z⟩
      · rintro (z | ⟨j, hj, z⟩)
        · exact Or.inl z
        · exact Or.inr ⟨j, by omega, z⟩
    show ∃ h' b', fX7_where_b85 _ 220 _ _ _ h = _ ∧ _
    unfold fX7_where_b85
    rw [if_pos q.k220, W.2, if_neg (nle32 hkl (by omega))]
    simp only [q.r23, q.k238, q.l238, q.r24, q.k239, q.l239, q.r22, q.k237, q.l237, if_pos x1, e1, wk.2.2.1, wk.2.2.2.1, wk.2.2.2.2, reduceIte, z64, i64_of32 (z := y) ⟨by omega, by omega⟩, i64_mul, i64_sub, lt_def]
    by_cases cB : lnB (ownL ks k) = 0
    · rw [if_pos ((lz_eq ⟨by omega, by omega⟩ z0).mpr cB)]
      exact go h b q W S (same (fun p z => z.1 cB)) (Fr.rf h)
    · rw [if_neg (fun z => cB ((lz_eq ⟨by omega, by omega⟩ z0).mp z))]
      have m1 := mul_bd (a := y) (b := lnC (ownL ks k)) (A := 5940) (B := 12000) hy ⟨by omega, by omega⟩
      -- the fraction, whatever the sign
      have main : ∀ P D : Int, PD P D → (P : Rat) / (D : Rat) = ((y * lnC (ownL ks k) - lnA (ownL ks k) : Int) : Rat) / (lnB (ownL ks k) : Rat) → ∃ h' b', fX7_where_b167 (fX7_where_l85 m) (i64 D) 220 (i32 y) (i32 w) (i32 (k : Int)) (i64 P) h = some (i64 (whA b' w), h') ∧ Fr A47 h h' ∧ Bst (T2 ks y (spL ks).length) b' := by
        intro P D hp epd
        obtain ⟨p1, p2, p3⟩ := id hp
        have o1 : (0 : Int) < 1 := by decide
        have bn : (lnB (ownL ks k) : Rat) ≠ 0 := fun z => cB (by exact_mod_cast z)
        have cn : (lnC (ownL ks k) : Rat) ≠ 0 := by
          intro z
          have z2 : lnC (ownL ks k) = 0 := by exact_mod_cast z
          omega
        have vy : ∀ p : Rat, vl (ownL ks k) p = (y : Rat) ↔ p = (P : Rat) / (D : Rat) := by
          intro p
          rw [epd]
          unfold vl ic sl
          rw [Rat.intCast_sub, Rat.intCast_mul]
          constructor
          · intro z; grind
          · intro z; rw [z]; grind
        have mF : fX7_lie (i64 (lnF (ownL ks k))) (1 : Int64) (i64 P) (i64 D) h = some (i32 (sg (lnF (ownL ks k) * D - P * 1)), h) := m_lie h ⟨by omega, by omega⟩ o1 ⟨by decide, by decide⟩ ⟨by omega, by omega⟩ p2 ⟨by omega, by omega⟩
        have mT : fX7_lie (i64 (lnT (ownL ks k))) (1 : Int64) (i64 P) (i64 D) h = some (i32 (sg (lnT (ownL ks k) * D - P * 1)), h) := m_lie h ⟨by omega, by omega⟩ o1 ⟨by decide, by decide⟩ ⟨by omega, by omega⟩ p2 ⟨by omega, by omega⟩
        have sF : 0 < sg (lnF (ownL ks k) * D - P * 1) ↔ (P : Rat) / (D : Rat) < (lnF (ownL ks k) : Rat) := by rw [sq_gt o1 p2, rat_1]
        have sT : sg (lnT (ownL ks k) * D - P * 1) < 0 ↔ (lnT (ownL ks k) : Rat) < (P : Rat) / (D : Rat) := by rw [sq_lt o1 p2, rat_1]
        unfold fX7_where_b167
        simp only [q.k220, q.r20, q.k235, q.l235, q.r21, q.k236, q.l236, if_pos x1, e1, wk.1, wk.2.1, i64_of32 (z := lnF (ownL ks k)) ⟨by omega, by omega⟩, i64_of32 (z := lnT (ownL ks k)) ⟨by omega, by omega⟩, mF, mT, bd_some, reduceIte]
        by_cases c1 : (P : Rat) / (D : Rat) < (lnF (ownL ks k) : Rat)
        · rw [if_pos ((si_gt _).mpr (sF.mpr c1))]
          exact go h b q W S (same (fun p z => by have e9 := (vy p).mp z.2.2.1; have := z.2.1.1; grind)) (Fr.rf h)
        · rw [if_neg (fun z => c1 (sF.mp ((si_gt _).mp z)))]
          by_cases c2 : (lnT (ownL ks k) : Rat) < (P : Rat) / (D : Rat)
          · rw [if_pos ((si_lt _).mpr (sT.mpr c2))]
            exact go h b q W S (same (fun p z => by have e9 := (vy p).mp z.2.2.1; have := z.2.1.2; grind)) (Fr.rf h)
          · rw [if_neg (fun z => c2 (sT.mp ((si_lt _).mp z)))]
            obtain ⟨g1, b1, G1, S1, F1, hb⟩ := m_meets q O W hy hp S
            rw [G1, bd_some]
            refine go g1 b1 (F1.mo q) (W.fr F1 A47_n.1 A47_n.2.1) S1 ?_ F1
            rcases hb with ⟨iv, eb⟩ | ⟨iv, eb⟩
            · rw [eb]
              refine (B.add (p0 := (P : Rat) / (D : Rat))).cong (fun p => ?_)
              unfold T2
              constructor
              · rintro (z | ⟨j, hj, z⟩)
                · exact Or.inl (Or.inl z)
                · by_cases c : j = k
                  · rw [c] at z; exact Or.inr ((vy p).mp z.2.2.1)
                  · exact Or.inl (Or.inr ⟨j, by omega, z⟩)
              · rintro ((z | ⟨j, hj, z⟩) | z)
                · exact Or.inl z
                · exact Or.inr ⟨j, by omega, z⟩
                · rw [z]; exact Or.inr ⟨k, by omega, cB, ⟨by grind, by grind⟩, (vy _).mpr rfl, iv⟩
            · rw [eb]
              exact same (fun p z => by have e9 := (vy p).mp z.2.2.1; have := z.2.2.2; rw [e9] at this; exact iv this)
      unfold fX7_where_b150
      by_cases cs : 0 ≤ lnB (ownL ks k)
      · rw [if_pos ((lz_ge ⟨by omega, by omega⟩ z0).mpr cs), z64, if_pos ((lz_ge ⟨by omega, by omega⟩ z0).mpr cs)]
        exact main _ _ ⟨⟨by omega, by omega⟩, by omega, by omega⟩ rfl
      · rw [if_neg (fun z => cs ((lz_ge ⟨by omega, by omega⟩ z0).mp z)), z64, if_neg (fun z => cs ((lz_ge ⟨by omega, by omega⟩ z0).mp z)), i64_neg, i64_neg]
        refine main _ _ ⟨⟨by omega, by omega⟩, by omega, by omega⟩ ?_
        have bn : (lnB (ownL ks k) : Rat) ≠ 0 := fun z => cB (by exact_mod_cast z)
        rw [Rat.intCast_neg, Rat.intCast_neg]
        grind
end WH
