/-! READ: the class reads numbers and fractions -/
def Tp (h : xH) (n : Nat) (T : Tap) (p : Nat) : Prop := Co h ∧ hI h 64 0 = i32 (n : Int) ∧ (∀ k, k < n → hI h 65 k = T k) ∧ hI h 64 3 = i32 (p : Int) ∧ p ≤ n ∧ n ≤ 400
def AS3 (r k : Nat) : Prop := r = 64 ∧ k = 3
def AS4 (r k : Nat) : Prop := r = 64 ∧ (k = 3 ∨ k = 4)
def AS6 (r k : Nat) : Prop := r = 64 ∧ 3 ≤ k ∧ k ≤ 6
def ASF (r k : Nat) : Prop := r = 64 ∧ 0 < k
theorem dig_i {z : Int} (b : B32 z) : dig (i32 z) = decide (48 ≤ z ∧ z ≤ 57) ∧ dv (i32 z) = (z - 48).toNat := by
  unfold dig dv
  rw [i32_toInt b]
  exact ⟨rfl, rfl⟩
theorem div60 {a b : Nat} (ha : a ≤ 9999) (hb : 1 ≤ b ∧ b ≤ 60) : i32 ((60 * a : Nat) : Int) / i32 (b : Int) = i32 ((60 * a / b : Nat) : Int) := by
  rw [i32_div ⟨by omega, by omega⟩ ⟨by omega, by omega⟩, Int.tdiv_eq_ediv_of_nonneg (by omega), ← Int.natCast_ediv]
theorem mod60 {a b : Nat} (ha : a ≤ 9999) (hb : 1 ≤ b ∧ b ≤ 60) : i32 ((60 * a : Nat) : Int) - i32 ((60 * a : Nat) : Int) / i32 (b : Int) * i32 (b : Int) = i32 (((60 * a) % b : Nat) : Int) := by
  rw [div60 ha hb, i32_mul, i32_sub]
  congr 1
  have := Nat.div_add_mod (60 * a) b
  have e : ((60 * a / b : Nat) : Int) * (b : Int) = ((b * (60 * a / b) : Nat) : Int) := by rw [Int.natCast_mul, Int.mul_comm]
  rw [e]
  generalize b * (60 * a / b) = D at this
  generalize 60 * a % b = R at this
  omega
section CP
variable {h : xH} {n : Nat} {T : Tap} {p : Nat}
theorem Tp.to {A : Nat → Nat → Prop} {h' : xH} {p' : Nat} (t : Tp h n T p) (f : Fr A h h') (hA : ¬ A 64 0 ∧ ∀ k, ¬ A 65 k) (e : hI h' 64 3 = i32 (p' : Int)) (hp : p' ≤ n) : Tp h' n T p' := ⟨f.co t.1, by rw [(f.2.2 64 0 hA.1).1]; exact t.2.1, fun k hk => by rw [(f.2.2 65 k (hA.2 k)).1]; exact t.2.2.1 k hk, e, hp, t.2.2.2.2.2⟩
theorem Tp.sm {A : Nat → Nat → Prop} {h' : xH} (t : Tp h n T p) (f : Fr A h h') (hA : ¬ A 64 0 ∧ ¬ A 64 3 ∧ ∀ k, ¬ A 65 k) : Tp h' n T p := t.to f ⟨hA.1, hA.2.2⟩ (by rw [(f.2.2 64 3 hA.2.1).1]; exact t.2.2.2.1) t.2.2.2.2.1
theorem c_fail (co : Co h) (v : Int32) : fX5_fail 64 v h = some (0, sI h 64 1 v) := by
  unfold fX5_fail
  rw [if_pos co.k64, lt_def]
theorem c_isDig (c : Int32) (h : xH) : fX5_isDigit c h = some (bz (dig c), h) := by
  obtain ⟨z, bz0, rfl⟩ := i32_ex c
  rw [(dig_i bz0).1]
  have l1 : (i32 z < (48 : Int32)) ↔ z < 48 := i32_lt (b := 48) bz0 ⟨by decide, by decide⟩
  have l2 : ((57 : Int32) < i32 z) ↔ 57 < z := i32_lt (a := 57) ⟨by decide, by decide⟩ bz0
  unfold fX5_isDigit
  by_cases c1 : z < 48
  · rw [if_pos (l1.mpr c1), decide_eq_false (by omega)]; rfl
  · rw [if_neg (fun z => c1 (l1.mp z))]
    by_cases c2 : 57 < z
    · rw [if_pos (l2.mpr c2), decide_eq_false (by omega)]; rfl
    · rw [if_neg (fun z => c2 (l2.mp z)), decide_eq_true (by omega)]; rfl
theorem c_sk0 : ∀ (d p m : Nat) (h : xH), n ≤ p + d → d < m → Tp h n T p → ∃ h', fX5_skipBlanks_l0 m 64 h = some ((), h') ∧ Tp h' n T (sk0 T n d p) ∧ Fr AS3 h h' := by
  intro d
  induction d with
  | zero =>
    intro p m h hd hm t
    obtain ⟨m, rfl⟩ : ∃ k, m = k + 1 := ⟨m - 1, by omega⟩
    obtain ⟨co, t1, t2, t3, t4, t5⟩ := id t
    refine ⟨h, ?_, t, Fr.rf h⟩
    show fX5_skipBlanks_b0 _ 64 h = _
    unfold fX5_skipBlanks_b0
    rw [if_pos co.k64, t1, t3, if_pos ((i32_le ⟨by omega, by omega⟩ ⟨by omega, by omega⟩).mpr (by omega))]
  | succ d ih =>
    intro p m h hd hm t
    obtain ⟨m, rfl⟩ : ∃ k, m = k + 1 := ⟨m - 1, by omega⟩
    obtain ⟨co, t1, t2, t3, t4, t5⟩ := id t
    by_cases c1 : p < n
    · have x1 : ix (i32 (p : Int)) 400 := ix_i (by omega) (by omega) (by decide)
      have n1 := nat_i p (by omega)
      by_cases c2 : T p = 32
      · have es : sk0 T n (d + 1) p = sk0 T n d (p + 1) := if_pos ⟨c1, c2⟩
        have f1 : Fr AS3 h (sI h 64 3 (i32 ((p + 1 : Nat) : Int))) := Fr.I _ ⟨rfl, rfl⟩
        obtain ⟨h2, E2, t', F2⟩ := ih (p + 1) m _ (by omega) (by omega) (t.to f1 ⟨by unfold AS3; omega, fun k => by unfold AS3; omega⟩ (by rw [hI_sI, if_pos ⟨rfl, rfl⟩]) (by omega))
        refine ⟨h2, ?_, by rw [es]; exact t', f1.tr F2⟩
        show fX5_skipBlanks_b0 _ 64 h = _
        unfold fX5_skipBlanks_b0
        rw [if_pos co.k64, t1, t3, if_neg (fun z => by have := (i32_le ⟨by omega, by omega⟩ ⟨by omega, by omega⟩).mp z; omega), co.r64_2, if_pos co.k65, co.l65, if_pos x1]
        simp only [n1]
        rw [t2 p c1, if_pos c2, lt_def, one32, i32_add, kp1]
        exact E2
      · have es : sk0 T n (d + 1) p = p := if_neg (fun z => c2 z.2)
        refine ⟨h, ?_, by rw [es]; exact t, Fr.rf h⟩
        show fX5_skipBlanks_b0 _ 64 h = _
        unfold fX5_skipBlanks_b0
        rw [if_pos co.k64, t1, t3, if_neg (fun z => by have := (i32_le ⟨by omega, by omega⟩ ⟨by omega, by omega⟩).mp z; omega), co.r64_2, if_pos co.k65, co.l65, if_pos x1]
        simp only [n1]
        rw [t2 p c1, if_neg c2]
    · have es : sk0 T n (d + 1) p = p := if_neg (fun z => c1 z.1)
      refine ⟨h, ?_, by rw [es]; exact t, Fr.rf h⟩
      show fX5_skipBlanks_b0 _ 64 h = _
      unfold fX5_skipBlanks_b0
      rw [if_pos co.k64, t1, t3, if_pos ((i32_le ⟨by omega, by omega⟩ ⟨by omega, by omega⟩).mpr (by omega))]
theorem c_skip (t : Tp h n T p) : ∃ h', fX5_skipBlanks 64 h = some ((), h') ∧ Tp h' n T (sk T n p) ∧ Fr AS3 h h' := c_sk0 n p FU h (by omega) (by rw [FU_eq]; have := t.2.2.2.2.2; omega) t
theorem c_take (t : Tp h n T p) (c : Int32) : (p < n ∧ T p = c → ∃ h', fX5_takeSign 64 c h = some (1, h') ∧ Tp h' n T (p + 1) ∧ Fr AS3 h h') ∧ (¬ (p < n ∧ T p = c) → fX5_takeSign 64 c h = some (0, h)) := by
  obtain ⟨co, t1, t2, t3, t4, t5⟩ := id t
  refine ⟨fun z => ?_, fun z => ?_⟩
  · have x1 : ix (i32 (p : Int)) 400 := ix_i (by omega) (by omega) (by decide)
    have n1 := nat_i p (by omega)
    have f1 : Fr AS3 h (sI h 64 3 (i32 ((p + 1 : Nat) : Int))) := Fr.I _ ⟨rfl, rfl⟩
    refine ⟨_, ?_, t.to f1 ⟨by unfold AS3; omega, fun k => by unfold AS3; omega⟩ (by rw [hI_sI, if_pos ⟨rfl, rfl⟩]) (by omega), f1⟩
    unfold fX5_takeSign
    rw [if_pos co.k64, t1, t3, if_neg (fun z => by have := (i32_le ⟨by omega, by omega⟩ ⟨by omega, by omega⟩).mp z; omega), co.r64_2, if_pos co.k65, co.l65, if_pos x1]
    simp only [n1]
    rw [t2 p z.1, if_pos z.2, lt_def, one32, i32_add, kp1]
  · unfold fX5_takeSign
    by_cases c1 : p < n
    · have x1 : ix (i32 (p : Int)) 400 := ix_i (by omega) (by omega) (by decide)
      have n1 := nat_i p (by omega)
      rw [if_pos co.k64, t1, t3, if_neg (fun z => by have := (i32_le ⟨by omega, by omega⟩ ⟨by omega, by omega⟩).mp z; omega), co.r64_2, if_pos co.k65, co.l65, if_pos x1]
      simp only [n1]
      rw [t2 p c1, if_neg (fun e => z ⟨c1, e⟩)]
    · rw [if_pos co.k64, t1, t3, if_pos ((i32_le ⟨by omega, by omega⟩ ⟨by omega, by omega⟩).mpr (by omega))]
def cpM (m a : Nat) : Nat := if a ≤ m then a else m + 1
theorem c_nl {L : Int32} {most : Nat} {st : Int32} (hm9 : most ≤ 9999) : ∀ (d p m a : Nat) (h : xH), n ≤ p + d → d < m → Tp h n T p → ∃ h', fX5_readNumber_l12 m 64 L (i32 (most : Int)) st (i32 (cpM most a : Int)) h = fX5_readNumber_b77 64 L (i32 (most : Int)) st (i32 (cpM most (dgs T n d p a).1 : Int)) h' ∧ Tp h' n T (dgs T n d p a).2 ∧ Fr AS3 h h' := by
  intro d
  induction d with
  | zero =>
    intro p m a h hd hm t
    obtain ⟨m, rfl⟩ : ∃ k, m = k + 1 := ⟨m - 1, by omega⟩
    obtain ⟨co, t1, t2, t3, t4, t5⟩ := id t
    refine ⟨h, ?_, t, Fr.rf h⟩
    show fX5_readNumber_b12 _ 64 _ _ _ _ h = _
    unfold fX5_readNumber_b12
    rw [if_pos co.k64, t1, t3, if_pos ((i32_le ⟨by omega, by omega⟩ ⟨by omega, by omega⟩).mpr (by omega))]
    rfl
  | succ d ih =>
    intro p m a h hd hm t
    obtain ⟨m, rfl⟩ : ∃ k, m = k + 1 := ⟨m - 1, by omega⟩
    obtain ⟨co, t1, t2, t3, t4, t5⟩ := id t
    by_cases c1 : p < n
    · have x1 : ix (i32 (p : Int)) 400 := ix_i (by omega) (by omega) (by decide)
      have n1 := nat_i p (by omega)
      cases c2 : dig (T p) with
      | true =>
        have es : dgs T n (d + 1) p a = dgs T n d (p + 1) (10 * a + dv (T p)) := if_pos ⟨c1, c2⟩
        have f1 : Fr AS3 h (sI h 64 3 (i32 ((p + 1 : Nat) : Int))) := Fr.I _ ⟨rfl, rfl⟩
        obtain ⟨h2, E2, t', F2⟩ := ih (p + 1) m (10 * a + dv (T p)) _ (by omega) (by omega) (t.to f1 ⟨by unfold AS3; omega, fun k => by unfold AS3; omega⟩ (by rw [hI_sI, if_pos ⟨rfl, rfl⟩]) (by omega))
        rw [es]
        refine ⟨h2, ?_, t', f1.tr F2⟩
        obtain ⟨z, bz0, ez⟩ := i32_ex (T p)
        have dz := dig_i bz0
        rw [ez] at c2
        rw [dz.1] at c2
        have cz := of_decide_eq_true c2
        have ed : dv (T p) = (z - 48).toNat := by rw [ez]; exact dz.2
        have hcp : cpM most a ≤ 10000 := by unfold cpM; split <;> omega
        have em : mnI ((cpM most a : Int) * 10 + (z - 48)) ((most : Int) + 1) = (cpM most (10 * a + dv (T p)) : Int) := by
          rw [ed]
          unfold mnI cpM
          by_cases q1 : a ≤ most
          · rw [if_pos q1]
            by_cases q2 : 10 * a + (z - 48).toNat ≤ most
            · rw [if_pos q2, if_neg (by omega)]; omega
            · rw [if_neg q2]
              split <;> omega
          · rw [if_neg q1, if_neg (show ¬ 10 * a + (z - 48).toNat ≤ most by omega)]
            split <;> omega
        show fX5_readNumber_b12 _ 64 _ _ _ _ h = _
        unfold fX5_readNumber_b12
        rw [if_pos co.k64, t1, t3, if_neg (fun z => by have := (i32_le ⟨by omega, by omega⟩ ⟨by omega, by omega⟩).mp z; omega), co.r64_2, if_pos co.k65, co.l65, if_pos x1]
        simp only [n1]
        rw [t2 p c1, c_isDig, bd_some, if_neg (by rw [ez, dz.1, c2]; exact bzt0), co.r64_2, if_pos co.k65, co.l65, t3, if_pos x1]
        simp only [n1]
        rw [t2 p c1, ez, show (10 : Int32) = i32 10 from rfl, i48, one32, i32_mul, i32_sub, i32_add, i32_add, c_minI ⟨by omega, by omega⟩ ⟨by omega, by omega⟩, bd_some, em, lt_def, t3, i32_add, kp1, ← ez]
        exact E2
      | false =>
        have es : dgs T n (d + 1) p a = (a, p) := if_neg (fun z => by rw [c2] at z; cases z.2)
        rw [es]
        refine ⟨h, ?_, t, Fr.rf h⟩
        show fX5_readNumber_b12 _ 64 _ _ _ _ h = _
        unfold fX5_readNumber_b12
        rw [if_pos co.k64, t1, t3, if_neg (fun z => by have := (i32_le ⟨by omega, by omega⟩ ⟨by omega, by omega⟩).mp z; omega), co.r64_2, if_pos co.k65, co.l65, if_pos x1]
        simp only [n1]
        rw [t2 p c1, c_isDig, bd_some, c2, if_pos bz_f]
    · have es : dgs T n (d + 1) p a = (a, p) := if_neg (fun z => c1 z.1)
      rw [es]
      refine ⟨h, ?_, t, Fr.rf h⟩
      show fX5_readNumber_b12 _ 64 _ _ _ _ h = _
      unfold fX5_readNumber_b12
      rw [if_pos co.k64, t1, t3, if_pos ((i32_le ⟨by omega, by omega⟩ ⟨by omega, by omega⟩).mpr (by omega))]
theorem c_num {least most : Nat} (t : Tp h n T p) (hm9 : most ≤ 9999) (hlm : least ≤ most) : (∀ f, numP T n least most p = .inl f → ∃ h', fX5_readNumber 64 (i32 (least : Int)) (i32 (most : Int)) h = some (0, h') ∧ hI h' 64 1 = i32 (f : Int) ∧ Fr ASF h h') ∧ (∀ v e, numP T n least most p = .inr (v, e) → ∃ h', fX5_readNumber 64 (i32 (least : Int)) (i32 (most : Int)) h = some (1, h') ∧ hI h' 64 4 = i32 (v : Int) ∧ Tp h' n T e ∧ Fr AS4 h h') := by
  obtain ⟨h1, E1, tt1, F1⟩ := c_skip t
  obtain ⟨h2, E2, tt2, F2⟩ := c_nl (L := i32 (least : Int)) (st := i32 (sk T n p : Int)) hm9 n (sk T n p) FU 0 h1 (by omega) (by rw [FU_eq]; have := t.2.2.2.2.2; omega) tt1
  have ecp0 : cpM most 0 = 0 := if_pos (Nat.zero_le _)
  rw [ecp0] at E2
  have co := t.1
  have co1 := tt1.1
  have co2 := tt2.1
  have n4 := t.2.2.2.2.2
  have hs := sk_b (T := T) t.2.2.2.2.1
  have hd := dgs_b (T := T) n (sk T n p) 0 hs.2
  have F12 : Fr AS3 h h2 := F1.tr F2
  have f3 : hI h1 64 3 = i32 (sk T n p : Int) := tt1.2.2.2.1
  have g3 : hI h2 64 3 = i32 ((dgs T n n (sk T n p) 0).2 : Int) := tt2.2.2.2.1
  have E0 : fX5_readNumber 64 (i32 (least : Int)) (i32 (most : Int)) h = fX5_readNumber_b77 64 (i32 (least : Int)) (i32 (most : Int)) (i32 (sk T n p : Int)) (i32 (cpM most (dgs T n n (sk T n p) 0).1 : Int)) h2 := by
    unfold fX5_readNumber
    rw [if_pos co.k64, E1, bd_some, lt_def, lt_def, f3]
    exact E2
  have hcp : cpM most (dgs T n n (sk T n p) 0).1 ≤ 10000 := by unfold cpM; split <;> omega
  have bad : fX5_readNumber_b97 64 (i32 (sk T n p : Int)) h2 = some (0, sI h2 64 1 (i32 (sk T n p : Int))) := by
    unfold fX5_readNumber_b97
    rw [if_pos co2.k64, c_fail co2, bd_some, if_pos (Or.inl rfl)]
  have Fbad : Fr ASF h (sI h2 64 1 (i32 (sk T n p : Int))) := (F12.mono (fun r k z => ⟨z.1, by have := z.2; omega⟩)).tr (Fr.I _ ⟨rfl, by decide⟩)
  have eq3 : (i32 ((dgs T n n (sk T n p) 0).2 : Int) = i32 (sk T n p : Int)) ↔ (dgs T n n (sk T n p) 0).2 = sk T n p := by
    rw [i32_eq ⟨by omega, by omega⟩ ⟨by omega, by omega⟩]; omega
  have lt3 : (i32 (cpM most (dgs T n n (sk T n p) 0).1 : Int) < i32 (least : Int)) ↔ (dgs T n n (sk T n p) 0).1 < least := by
    rw [i32_lt ⟨by omega, by omega⟩ ⟨by omega, by omega⟩]
    unfold cpM; split <;> omega
  have le3 : (i32 (cpM most (dgs T n n (sk T n p) 0).1 : Int) ≤ i32 (most : Int)) ↔ (dgs T n n (sk T n p) 0).1 ≤ most := by
    rw [i32_le ⟨by omega, by omega⟩ ⟨by omega, by omega⟩]
    unfold cpM; split <;> omega
  refine ⟨fun f hf => ?_, fun v e hv => ?_⟩
  · unfold numP at hf
    split at hf
    · rename_i c
      have ef := Sum.inl.inj hf
      refine ⟨_, ?_, by rw [hI_sI, if_pos ⟨rfl, rfl⟩, ef], Fbad⟩
      rw [E0]
      unfold fX5_readNumber_b77
      rw [if_pos co2.k64, g3]
      by_cases c1 : (dgs T n n (sk T n p) 0).2 = sk T n p
      · rw [if_pos (eq3.mpr c1), bad]
      · rw [if_neg (fun z => c1 (eq3.mp z))]
        by_cases c2 : (dgs T n n (sk T n p) 0).1 < least
        · rw [if_pos (lt3.mpr c2), bad]
        · rw [if_neg (fun z => c2 (lt3.mp z)), if_neg (fun z => by have := le3.mp z; omega), bad]
    · cases hf
  · unfold numP at hv
    split at hv
    · cases hv
    · rename_i c
      have ev0 := Sum.inr.inj hv
      have e1 : (dgs T n n (sk T n p) 0).1 = v := by rw [ev0]
      have e2 : (dgs T n n (sk T n p) 0).2 = e := by rw [ev0]
      have f4 : Fr AS4 h2 (sI h2 64 4 (i32 (v : Int))) := Fr.I _ ⟨rfl, Or.inr rfl⟩
      have ecp : cpM most (dgs T n n (sk T n p) 0).1 = v := by unfold cpM; rw [if_pos (by omega), e1]
      refine ⟨sI h2 64 4 (i32 (v : Int)), ?_, by rw [hI_sI, if_pos ⟨rfl, rfl⟩], ?_, (F12.mono (fun r k z => ⟨z.1, Or.inl z.2⟩)).tr f4⟩
      · rw [E0]
        unfold fX5_readNumber_b77
        rw [if_pos co2.k64, g3, if_neg (fun z => by have := eq3.mp z; omega), if_neg (fun z => by have := lt3.mp z; omega), if_pos (le3.mpr (by omega)), lt_def, ecp]
      · rw [← e2]
        exact tt2.to f4 ⟨by unfold AS4; omega, fun k => by unfold AS4; omega⟩ (by rw [hI_sI, if_neg (by omega)]; exact g3) hd.2
theorem c_b72 {a b s : Nat} {less : Bool} (co : Co h) (h5 : hI h 64 5 = i32 (s : Int)) (ha : a ≤ 9999) (hb : 1 ≤ b ∧ b ≤ 60) : (¬ (60 * a) % b = 0 ∨ 5940 < 60 * a / b → fX5_readFraction_b72 64 (bz less) (i32 ((60 * a : Nat) : Int)) (i32 (b : Int)) h = some (0, sI h 64 1 (i32 (s : Int)))) ∧ (¬ (¬ (60 * a) % b = 0 ∨ 5940 < 60 * a / b) → fX5_readFraction_b72 64 (bz less) (i32 ((60 * a : Nat) : Int)) (i32 (b : Int)) h = some (1, sI h 64 6 (i32 (if less = true then -((60 * a / b : Nat) : Int) else ((60 * a / b : Nat) : Int))))) := by
  have b0 : ¬ i32 (b : Int) = 0 := fun z => by have := (i32_eq (b := 0) ⟨by omega, by omega⟩ ⟨by decide, by decide⟩).mp z; omega
  have b1 : ¬ i32 (b : Int) ≤ 0 := fun z => by have := (i32_le (b := 0) ⟨by omega, by omega⟩ ⟨by decide, by decide⟩).mp z; omega
  have hD : 60 * a / b ≤ 600000 := Nat.le_trans (Nat.div_le_self _ _) (by omega)
  have hR : 60 * a % b < 60 := Nat.lt_of_lt_of_le (Nat.mod_lt _ (by omega)) hb.2
  have m0 : (i32 (((60 * a) % b : Nat) : Int) = 0) ↔ (60 * a) % b = 0 := by
    rw [show (0 : Int32) = i32 0 from rfl, i32_eq ⟨by omega, by omega⟩ ⟨by decide, by decide⟩]; omega
  have d0 : (i32 ((60 * a / b : Nat) : Int) ≤ (5940 : Int32)) ↔ 60 * a / b ≤ 5940 := by
    rw [show (5940 : Int32) = i32 5940 from rfl]
    generalize 60 * a / b = D at hD ⊢
    rw [i32_le ⟨by omega, by omega⟩ ⟨by decide, by decide⟩]; omega
  have bad : fX5_readFraction_b91 64 h = some (0, sI h 64 1 (i32 (s : Int))) := by
    unfold fX5_readFraction_b91
    rw [if_pos co.k64, h5, c_fail co, bd_some, if_pos (Or.inl rfl)]
  refine ⟨fun z => ?_, fun z => ?_⟩
  · unfold fX5_readFraction_b72
    rw [if_neg b1, if_pos b0, mod60 ha hb]
    by_cases c : (60 * a) % b = 0
    · rw [if_pos (m0.mpr c), if_pos b0, div60 ha hb, if_neg (fun w => by have := d0.mp w; rcases z with z | z; exact z c; omega), bad]
    · rw [if_neg (fun w => c (m0.mp w)), bad]
  · have c1 : (60 * a) % b = 0 := Decidable.byContradiction (fun w => z (Or.inl w))
    have c2 : 60 * a / b ≤ 5940 := Decidable.byContradiction (fun w => z (Or.inr (Nat.lt_of_not_le w)))
    unfold fX5_readFraction_b72 fX5_readFraction_b115
    rw [if_neg b1, if_pos b0, mod60 ha hb, if_pos (m0.mpr c1), if_pos b0, div60 ha hb, if_pos (d0.mpr c2)]
    cases less with
    | false => rw [if_pos bz_f, if_pos b0, if_pos co.k64, lt_def, if_neg (by decide)]
    | true => rw [if_neg bzt0, if_pos b0, if_pos co.k64, lt_def, i32_neg, if_pos rfl]
end CP
