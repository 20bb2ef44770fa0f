/-! READ: the reference reads numbers and fractions -/
def Rp (h : xH) (n : Nat) (T : Tap) (p : Nat) : Prop := Mo h ∧ hI h 220 36 = i32 (n : Int) ∧ (∀ k, k < n → hI h 246 k = T k) ∧ hI h 220 38 = i32 (p : Int) ∧ p ≤ n ∧ n ≤ 400
def RS8 (r k : Nat) : Prop := r = 220 ∧ k = 38
def RS40 (r k : Nat) : Prop := r = 220 ∧ (k = 38 ∨ k = 40)
def RSF (r k : Nat) : Prop := r = 220 ∧ 37 ≤ k ∧ k ≤ 40
def sgT (T : Tap) (n q : Nat) : Int32 := if q < n then T q else 0
section MP
variable {h : xH} {n : Nat} {T : Tap} {p : Nat}
theorem Rp.to {A : Nat → Nat → Prop} {h' : xH} {p' : Nat} (t : Rp h n T p) (f : Fr A h h') (hA : ¬ A 220 36 ∧ ∀ k, ¬ A 246 k) (e : hI h' 220 38 = i32 (p' : Int)) (hp : p' ≤ n) : Rp h' n T p' := ⟨f.mo t.1, by rw [(f.2.2 220 36 hA.1).1]; exact t.2.1, fun k hk => by rw [(f.2.2 246 k (hA.2 k)).1]; exact t.2.2.1 k hk, e, hp, t.2.2.2.2.2⟩
theorem Rp.sm {A : Nat → Nat → Prop} {h' : xH} (t : Rp h n T p) (f : Fr A h h') (hA : ¬ A 220 36 ∧ ¬ A 220 38 ∧ ∀ k, ¬ A 246 k) : Rp h' n T p := t.to f ⟨hA.1, hA.2.2⟩ (by rw [(f.2.2 220 38 hA.2.1).1]; exact t.2.2.2.1) t.2.2.2.2.1
theorem Rp.adv (t : Rp h n T p) (hp : p < n) : Rp (sI h 220 38 (i32 ((p + 1 : Nat) : Int))) n T (p + 1) ∧ Fr RS8 h (sI h 220 38 (i32 ((p + 1 : Nat) : Int))) := by
  have f1 : Fr RS8 h (sI h 220 38 (i32 ((p + 1 : Nat) : Int))) := Fr.I _ ⟨rfl, rfl⟩
  exact ⟨t.to f1 ⟨by unfold RS8; omega, fun k => by unfold RS8; omega⟩ (by rw [hI_sI, if_pos ⟨rfl, rfl⟩]) (by omega), f1⟩
theorem m_isDig (c : Int32) (h : xH) : fX7_isDigit c h = some (bz (dig c), h) := by
  obtain ⟨z, bz0, rfl⟩ := i32_ex c
  rw [(dig_i bz0).1]
  unfold fX7_isDigit
  rw [i64_of32 bz0, show (48 : Int64) = i64 48 from rfl, show (57 : Int64) = i64 57 from rfl, m_in ⟨by have := bz0.1; omega, by have := bz0.2; omega⟩ ⟨by decide, by decide⟩ ⟨by decide, by decide⟩, bd_some, if_pos (bz_01 _)]
theorem m_wrong (M : Mo h) (g : hI h 220 39 = 1) (v : Int32) : fX7_wrong 220 v h = some ((), sI (sI h 220 37 v) 220 39 0) := by
  have M2 : Mo (sI h 220 37 v) := (Fr.I (A := fun r _ => r = 220) _ rfl).mo M
  unfold fX7_wrong fX7_wrong_b16
  rw [if_pos M.k220, if_neg (by rw [g]; decide), if_pos M.k220, lt_def, if_pos M2.k220, lt_def]
theorem m_s38 (t : Rp h n T p) : fX7_sign_b38 220 h = some (sgT T n p, h) := by
  obtain ⟨M, t1, t2, t3, t4, t5⟩ := id t
  unfold fX7_sign_b38 sgT
  by_cases c1 : p < n
  · have x1 : ix (i32 (p : Int)) 400 := ix_i (by omega) (by omega) (by decide)
    have n1 := nat_i p (by omega)
    rw [if_pos M.k220, t1, t3, if_neg (fun z => by have := (i32_le ⟨by omega, by omega⟩ ⟨by omega, by omega⟩).mp z; omega), M.r35, if_pos M.k246, M.l246, if_pos x1]
    simp only [n1]
    rw [t2 p c1, if_pos c1]
  · rw [if_pos M.k220, t1, t3, if_pos ((i32_le ⟨by omega, by omega⟩ ⟨by omega, by omega⟩).mpr (by omega)), if_neg c1]
theorem m_sk0 : ∀ (d p m : Nat) (h : xH), n ≤ p + d → d < m → Rp h n T p → ∃ h', fX7_sign_l0 m 220 h = some (sgT T n (sk0 T n d p), h') ∧ Rp h' n T (sk0 T n d p) ∧ Fr RS8 h h' := by
  intro d
  induction d with
  | zero =>
    intro p m h hd hm t
    obtain ⟨m, rfl⟩ : ∃ k, m = k + 1 := ⟨m - 1, by omega⟩
    obtain ⟨M, t1, t2, t3, t4, t5⟩ := id t
    refine ⟨h, ?_, t, Fr.rf h⟩
    show fX7_sign_b0 _ 220 h = _
    unfold fX7_sign_b0
    rw [if_pos M.k220, t1, t3, if_pos ((i32_le ⟨by omega, by omega⟩ ⟨by omega, by omega⟩).mpr (by omega)), m_s38 t]
    rfl
  | succ d ih =>
    intro p m h hd hm t
    obtain ⟨m, rfl⟩ : ∃ k, m = k + 1 := ⟨m - 1, by omega⟩
    obtain ⟨M, t1, t2, t3, t4, t5⟩ := id t
    by_cases c1 : p < n
    · have x1 : ix (i32 (p : Int)) 400 := ix_i (by omega) (by omega) (by decide)
      have n1 := nat_i p (by omega)
      by_cases c2 : T p = 32
      · have es : sk0 T n (d + 1) p = sk0 T n d (p + 1) := if_pos ⟨c1, c2⟩
        obtain ⟨t', f1⟩ := t.adv c1
        obtain ⟨h2, E2, t2', F2⟩ := ih (p + 1) m _ (by omega) (by omega) t'
        refine ⟨h2, ?_, by rw [es]; exact t2', f1.tr F2⟩
        rw [es]
        show fX7_sign_b0 _ 220 h = _
        unfold fX7_sign_b0
        rw [if_pos M.k220, t1, t3, if_neg (fun z => by have := (i32_le ⟨by omega, by omega⟩ ⟨by omega, by omega⟩).mp z; omega), M.r35, if_pos M.k246, M.l246, if_pos x1]
        simp only [n1]
        rw [t2 p c1, if_pos c2, lt_def, one32, i32_add, kp1]
        exact E2
      · have es : sk0 T n (d + 1) p = p := if_neg (fun z => c2 z.2)
        refine ⟨h, ?_, by rw [es]; exact t, Fr.rf h⟩
        rw [es]
        show fX7_sign_b0 _ 220 h = _
        unfold fX7_sign_b0
        rw [if_pos M.k220, t1, t3, if_neg (fun z => by have := (i32_le ⟨by omega, by omega⟩ ⟨by omega, by omega⟩).mp z; omega), M.r35, if_pos M.k246, M.l246, if_pos x1]
        simp only [n1]
        rw [t2 p c1, if_neg c2, m_s38 t]
    · have es : sk0 T n (d + 1) p = p := if_neg (fun z => c1 z.1)
      refine ⟨h, ?_, by rw [es]; exact t, Fr.rf h⟩
      rw [es]
      show fX7_sign_b0 _ 220 h = _
      unfold fX7_sign_b0
      rw [if_pos M.k220, t1, t3, if_pos ((i32_le ⟨by omega, by omega⟩ ⟨by omega, by omega⟩).mpr (by omega)), m_s38 t]
theorem m_sign (t : Rp h n T p) : ∃ h', fX7_sign 220 h = some (sgT T n (sk T n p), h') ∧ Rp h' n T (sk T n p) ∧ Fr RS8 h h' := m_sk0 n p FU h (by omega) (by rw [FU_eq]; have := t.2.2.2.2.2; omega) t
theorem sgn_is {q : Nat} {c : Int32} (hc : ¬ (0 : Int32) = c) : sgT T n q = c ↔ q < n ∧ T q = c := by
  unfold sgT
  by_cases z : q < n
  · rw [if_pos z]; exact ⟨fun e => ⟨z, e⟩, fun e => e.2⟩
  · rw [if_neg z]; exact ⟨fun e => absurd e hc, fun e => absurd e.1 z⟩
def VaN (v a : Nat) : Prop := v ≤ 1000000 ∧ (v = a ∨ (99999 < v ∧ 99999 < a))
theorem m_nl {L M0 st : Int32} : ∀ (d p m a v : Nat) (h : xH), n ≤ p + d → d < m → Rp h n T p → VaN v a → ∃ (h' : xH) (v' : Nat), fX7_number_l35 m 220 L M0 st (i32 (v : Int)) h = fX7_number_b107 220 L M0 st (i32 (v' : Int)) h' ∧ VaN v' (dgs T n d p a).1 ∧ Rp h' n T (dgs T n d p a).2 ∧ Fr RS8 h h' := by
  intro d
  induction d with
  | zero =>
    intro p m a v h hd hm t vi
    obtain ⟨m, rfl⟩ : ∃ k, m = k + 1 := ⟨m - 1, by omega⟩
    obtain ⟨M, t1, t2, t3, t4, t5⟩ := id t
    refine ⟨h, v, ?_, vi, t, Fr.rf h⟩
    show fX7_number_b35 _ 220 _ _ _ _ h = _
    unfold fX7_number_b35
    rw [if_pos M.k220, t1, t3, if_pos ((i32_le ⟨by omega, by omega⟩ ⟨by omega, by omega⟩).mpr (by omega))]
  | succ d ih =>
    intro p m a v h hd hm t vi
    obtain ⟨m, rfl⟩ : ∃ k, m = k + 1 := ⟨m - 1, by omega⟩
    obtain ⟨M, t1, t2, t3, t4, t5⟩ := id t
    have vb := vi.1
    by_cases c1 : p < n
    · have x1 : ix (i32 (p : Int)) 400 := ix_i (by omega) (by omega) (by decide)
      have n1 := nat_i p (by omega)
      cases c2 : dig (T p) with
      | true =>
        have es : dgs T n (d + 1) p a = dgs T n d (p + 1) (10 * a + dv (T p)) := if_pos ⟨c1, c2⟩
        obtain ⟨t', f1⟩ := t.adv c1
        obtain ⟨z, bz0, ez⟩ := i32_ex (T p)
        have dz := dig_i bz0
        have c2' := c2
        rw [ez, dz.1] at c2'
        have cz := of_decide_eq_true c2'
        have ed : dv (T p) = (z - 48).toNat := by rw [ez]; exact dz.2
        have l9 : (i32 (v : Int) ≤ (99999 : Int32)) ↔ v ≤ 99999 := by
          rw [show (99999 : Int32) = i32 99999 from rfl, i32_le ⟨by omega, by omega⟩ ⟨by decide, by decide⟩]; omega
        by_cases c3 : v ≤ 99999
        · obtain ⟨h2, v', E2, vi', t2', F2⟩ := ih (p + 1) m (10 * a + dv (T p)) (10 * v + dv (T p)) _ (by omega) (by omega) t' (by
            have := vi.2
            rw [ed]
            exact ⟨by omega, by omega⟩)
          rw [es]
          refine ⟨h2, v', ?_, vi', t2', f1.tr F2⟩
          show fX7_number_b35 _ 220 _ _ _ _ h = _
          unfold fX7_number_b35 fX7_number_b92
          rw [if_pos M.k220, t1, t3, if_neg (fun z => by have := (i32_le ⟨by omega, by omega⟩ ⟨by omega, by omega⟩).mp z; omega), M.r35, if_pos M.k246, M.l246, if_pos x1]
          simp only [n1]
          rw [t2 p c1, m_isDig, bd_some, c2, if_neg bzt0, if_pos (l9.mpr c3), M.r35, if_pos M.k246, M.l246, t3, if_pos x1]
          simp only [n1]
          rw [t2 p c1, if_pos M.k220, lt_def, ez, show (10 : Int32) = i32 10 from rfl, i48, i32_mul, i32_add, i32_sub, one32, i32_add, kp1, show 10 * (v : Int) + z - 48 = ((10 * v + dv (T p) : Nat) : Int) by rw [ed]; omega]
          exact E2
        · obtain ⟨h2, v', E2, vi', t2', F2⟩ := ih (p + 1) m (10 * a + dv (T p)) v _ (by omega) (by omega) t' (by
            have := vi.2
            exact ⟨by omega, Or.inr ⟨by omega, by omega⟩⟩)
          rw [es]
          refine ⟨h2, v', ?_, vi', t2', f1.tr F2⟩
          show fX7_number_b35 _ 220 _ _ _ _ h = _
          unfold fX7_number_b35 fX7_number_b92
          rw [if_pos M.k220, t1, t3, if_neg (fun z => by have := (i32_le ⟨by omega, by omega⟩ ⟨by omega, by omega⟩).mp z; omega), M.r35, if_pos M.k246, M.l246, if_pos x1]
          simp only [n1]
          rw [t2 p c1, m_isDig, bd_some, c2, if_neg bzt0, if_neg (fun z => c3 (l9.mp z)), if_pos M.k220, lt_def, t3, one32, i32_add, kp1]
          exact E2
      | false =>
        have es : dgs T n (d + 1) p a = (a, p) := if_neg (fun z => by rw [c2] at z; cases z.2)
        rw [es]
        refine ⟨h, v, ?_, vi, t, Fr.rf h⟩
        show fX7_number_b35 _ 220 _ _ _ _ h = _
        unfold fX7_number_b35
        rw [if_pos M.k220, t1, t3, if_neg (fun z => by have := (i32_le ⟨by omega, by omega⟩ ⟨by omega, by omega⟩).mp z; omega), M.r35, if_pos M.k246, M.l246, if_pos x1]
        simp only [n1]
        rw [t2 p c1, m_isDig, bd_some, c2, if_pos bz_f]
    · have es : dgs T n (d + 1) p a = (a, p) := if_neg (fun z => c1 z.1)
      rw [es]
      refine ⟨h, v, ?_, vi, t, Fr.rf h⟩
      show fX7_number_b35 _ 220 _ _ _ _ h = _
      unfold fX7_number_b35
      rw [if_pos M.k220, t1, t3, if_pos ((i32_le ⟨by omega, by omega⟩ ⟨by omega, by omega⟩).mpr (by omega))]
theorem dgs_go {s : Nat} (hs : s < n) (hd : dig (T s) = true) : s < (dgs T n n s 0).2 := by
  cases n with
  | zero => omega
  | succ n =>
    have e : dgs T (n + 1) (n + 1) s 0 = dgs T (n + 1) n (s + 1) (10 * 0 + dv (T s)) := if_pos ⟨hs, hd⟩
    rw [e]
    have := dgs_b (T := T) (n := n + 1) n (s + 1) (10 * 0 + dv (T s)) (by omega)
    omega
theorem dgs_no {s : Nat} (hd : ¬ (s < n ∧ dig (T s) = true)) : dgs T n n s 0 = (0, s) := by
  cases n with
  | zero => rfl
  | succ n => exact if_neg hd
theorem m_num {least most : Nat} (t : Rp h n T p) (g : hI h 220 39 = 1) (hm9 : most ≤ 9999) (hlm : least ≤ most) : (∀ f, numP T n least most p = .inl f → ∃ h', fX7_number 220 (i32 (least : Int)) (i32 (most : Int)) h = some (1, h') ∧ hI h' 220 37 = i32 (f : Int) ∧ hI h' 220 39 = 0 ∧ Fr RSF h h') ∧ (∀ v e, numP T n least most p = .inr (v, e) → ∃ h', fX7_number 220 (i32 (least : Int)) (i32 (most : Int)) h = some (i32 (v : Int), h') ∧ Rp h' n T e ∧ Fr RS8 h h') := by
  have M := t.1
  have n4 := t.2.2.2.2.2
  obtain ⟨h1, E1, t1, F1⟩ := m_sign t
  have g1 : hI h1 220 39 = 1 := by rw [(F1.2.2 220 39 (by unfold RS8; omega)).1]; exact g
  have hs := sk_b (T := T) t.2.2.2.2.1
  have q3 : hI h1 220 38 = i32 (sk T n p : Int) := t1.2.2.2.1
  have sf : ∀ {x y : xH}, Fr RS8 x y → Fr RSF x y := fun f => f.mono (fun r k z => by unfold RS8 at z; unfold RSF; omega)
  have wr : ∀ (g0 : xH) (v : Int32), Fr RSF g0 (sI (sI g0 220 37 v) 220 39 0) := fun g0 v => (Fr.I _ ⟨rfl, by decide, by decide⟩).tr (Fr.I _ ⟨rfl, by decide, by decide⟩)
  by_cases cd : sk T n p < n ∧ dig (T (sk T n p)) = true
  · have es : sgT T n (sk T n p) = T (sk T n p) := if_pos cd.1
    have go := dgs_go cd.1 cd.2
    obtain ⟨h2, v', E2, vi, t2, F2⟩ := m_nl (L := i32 (least : Int)) (M0 := i32 (most : Int)) (st := i32 (sk T n p : Int)) n (sk T n p) FU 0 0 h1 (by omega) (by rw [FU_eq]; omega) t1 ⟨by omega, Or.inl rfl⟩
    have g2 : hI h2 220 39 = 1 := by rw [(F2.2.2 220 39 (by unfold RS8; omega)).1]; exact g1
    have F12 := F1.tr F2
    have vb := vi.1
    have E2' : fX7_number_l35 FU 220 (i32 (least : Int)) (i32 (most : Int)) (i32 (sk T n p : Int)) 0 h1 = _ := E2
    have E0 : fX7_number 220 (i32 (least : Int)) (i32 (most : Int)) h = fX7_number_b107 220 (i32 (least : Int)) (i32 (most : Int)) (i32 (sk T n p : Int)) (i32 (v' : Int)) h2 := by
      unfold fX7_number
      rw [if_pos M.k220, if_neg (by rw [g]; decide), E1, bd_some, m_isDig, bd_some, es, cd.2, if_neg bzt0, lt_def, lt_def, q3, E2']
    have ein : fX7_in (i64 (v' : Int)) (i64 (least : Int)) (i64 (most : Int)) h2 = some (bz (decide ((least : Int) ≤ (v' : Int) ∧ (v' : Int) ≤ (most : Int))), h2) := m_in ⟨by omega, by omega⟩ ⟨by omega, by omega⟩ ⟨by omega, by omega⟩ h2
    refine ⟨fun f hf => ?_, fun v e hv => ?_⟩
    · unfold numP at hf
      split at hf
      · rename_i c
        have ef := Sum.inl.inj hf
        have nin : ¬ ((least : Int) ≤ (v' : Int) ∧ (v' : Int) ≤ (most : Int)) := fun z => by have := vi.2; omega
        refine ⟨_, ?_, by rw [hI_sI, if_neg (by omega), hI_sI, if_pos ⟨rfl, rfl⟩, ef], by rw [hI_sI, if_pos ⟨rfl, rfl⟩], (sf F12).tr (wr h2 (i32 (sk T n p : Int)))⟩
        rw [E0]
        unfold fX7_number_b107
        rw [i64_of32 ⟨by omega, by omega⟩, i64_of32 ⟨by omega, by omega⟩, i64_of32 ⟨by omega, by omega⟩, ein, bd_some, decide_eq_false nin, if_pos bz_f, if_pos t2.1.k220, m_wrong t2.1 g2, bd_some]
      · cases hf
    · unfold numP at hv
      split at hv
      · cases hv
      · rename_i c
        have ev0 := Sum.inr.inj hv
        have e1 : (dgs T n n (sk T n p) 0).1 = v := by rw [ev0]
        have e2 : (dgs T n n (sk T n p) 0).2 = e := by rw [ev0]
        have vv : v' = v := by have := vi.2; omega
        have yin : (least : Int) ≤ (v' : Int) ∧ (v' : Int) ≤ (most : Int) := by omega
        refine ⟨h2, ?_, by rw [← e2]; exact t2, F12⟩
        rw [E0]
        unfold fX7_number_b107
        rw [i64_of32 ⟨by omega, by omega⟩, i64_of32 ⟨by omega, by omega⟩, i64_of32 ⟨by omega, by omega⟩, ein, bd_some, decide_eq_true yin, if_neg bzt0, vv]
  · have en : numP T n least most p = .inl (sk T n p) := by
      unfold numP
      rw [dgs_no cd, if_pos (Or.inl rfl)]
    have ed : dig (sgT T n (sk T n p)) = false := by
      unfold sgT
      by_cases z : sk T n p < n
      · rw [if_pos z]
        cases hh : dig (T (sk T n p)) with
        | false => rfl
        | true => exact absurd ⟨z, hh⟩ cd
      · rw [if_neg z]; decide
    refine ⟨fun f hf => ?_, fun v e hv => by rw [en] at hv; cases hv⟩
    rw [en] at hf
    refine ⟨_, ?_, by rw [hI_sI, if_neg (by omega), hI_sI, if_pos ⟨rfl, rfl⟩, Sum.inl.inj hf], by rw [hI_sI, if_pos ⟨rfl, rfl⟩], (sf F1).tr (wr h1 (i32 (sk T n p : Int)))⟩
    unfold fX7_number fX7_number_b17
    rw [if_pos M.k220, if_neg (by rw [g]; decide), E1, bd_some, m_isDig, bd_some, ed, if_pos bz_f, if_pos t1.1.k220, q3, m_wrong t1.1 g1, bd_some]
end MP
