/-! THE CLASS' valueAt, leftEndAt, rightBeginAt -/
def VB (v : Option Rat) : Prop := ∀ y, v = some y → (-1000000000 ≤ y.num ∧ y.num ≤ 1000000000) ∧ (y.den : Int) ≤ 12000
theorem rat_b {n d M : Int} (d0 : 0 < d) (hn : -M ≤ n ∧ n ≤ M) : (-M ≤ ((n : Rat) / (d : Rat)).num ∧ ((n : Rat) / (d : Rat)).num ≤ M) ∧ ((((n : Rat) / (d : Rat)).den : Nat) : Int) ≤ d := by
  have l := low_pos (a := n) (b := d) d0
  rw [l.1, l.2]
  exact ⟨tdiv_b _ hn, (tdiv_b (a := d) (M := d) _ ⟨by omega, by omega⟩).2⟩
theorem VB_i {y : Int} (h : -1000000000 ≤ y ∧ y ≤ 1000000000) : VB (some (y : Rat)) := by
  intro z e
  rw [← Option.some.inj e, Rat.num_intCast]
  exact ⟨h, by show ((1 : Nat) : Int) ≤ 12000; decide⟩
theorem mul_bd {a b A B : Int} (ha : -A ≤ a ∧ a ≤ A) (hb : -B ≤ b ∧ b ≤ B) : -(A * B) ≤ a * b ∧ a * b ≤ A * B := by
  have hA : 0 ≤ A := by omega
  have hB : 0 ≤ B := by omega
  have h1 : (a * b).natAbs ≤ (A * B).natAbs := by
    rw [Int.natAbs_mul, Int.natAbs_mul]
    exact Nat.mul_le_mul (by omega) (by omega)
  have h2 : 0 ≤ A * B := Int.mul_nonneg hA hB
  omega
theorem nlt0 {l : Nat} (h : l ≤ 100000) : ¬ (i32 (l : Int) < 0) := by
  rw [z32]
  intro z
  have := (i32_lt (a := (l : Int)) (b := 0) ⟨by omega, by omega⟩ ⟨by decide, by decide⟩).mp z
  omega
section CV
variable {h : xH} {s cap r : Nat} {ks : List Kn} {x : Int}
theorem ShK.nr (W : ShK h s cap ks) (kr : kc h r = 2) : ∀ r' k, AX h s r' k → ¬ AR r r' k := by
  intro r' k z y
  rw [y.1] at z
  rcases z with z | ⟨j, j1, j2, z⟩
  · have := W.1.1; rw [← z, kr] at this; omega
  · rw [z] at kr
    by_cases e : j = 5
    · rw [e] at kr; have := W.c5; omega
    · have := (W.1.2.1 j j1 (by omega)).1; omega
theorem ShK.far {h' : xH} (W : ShK h s cap ks) (f : Fr (AR r) h h') (kr : kc h r = 2) : ShK h' s cap ks := W.fr f (W.nr kr)
theorem kr_b (P : StP ks) (F : StF ks) {k : Nat} (hk : k < ks.length) (g : kg ks k = true) : (-11880 ≤ krise ks k ∧ krise ks k ≤ 11880) ∧ 0 < krun ks k ∧ krun ks k ≤ 11880 := by
  have f := F.2 k hk g
  have b1 := P.b hk
  have b2 := P.b f.1
  unfold krise krun
  rw [if_pos g, if_pos g]
  omega
theorem kal_n (P : StP ks) (F : StF ks) {k : Nat} (hk : k < ks.length) (g : kg ks k = true) (hx : -20000 ≤ x ∧ x ≤ 20000) : -1000000000 ≤ ky ks k * krun ks k + krise ks k * (x - kx ks k) ∧ ky ks k * krun ks k + krise ks k * (x - kx ks k) ≤ 1000000000 := by
  have b := kr_b P F hk g
  have b1 := P.b hk
  have m1 := mul_bd (a := ky ks k) (b := krun ks k) (A := 5940) (B := 11880) ⟨by omega, by omega⟩ ⟨by omega, by omega⟩
  have m2 := mul_bd (a := krise ks k) (b := x - kx ks k) (A := 11880) (B := 25940) ⟨by omega, by omega⟩ ⟨by omega, by omega⟩
  omega
theorem VB_kal (P : StP ks) (F : StF ks) {k : Nat} (hk : k < ks.length) (g : kg ks k = true) (hx : -20000 ≤ x ∧ x ≤ 20000) : VB (some (kal ks k x)) := by
  intro z e
  have b := kr_b P F hk g
  rw [← Option.some.inj e]
  unfold kal
  have := rat_b b.2.1 (kal_n P F hk g hx)
  exact ⟨this.1, by omega⟩
theorem c_alongLine (W : ShK h s cap ks) (P : StP ks) (F : StF ks) {k : Nat} (hk : k < ks.length) (g : kg ks k = true) (hx : -20000 ≤ x ∧ x ≤ 20000) (kr : kc h r = 2) : ∃ h', fX4_alongLine s (i32 (k : Int)) (i32 x) r h = some ((), h') ∧ Rt h' r (some (kal ks k x)) ∧ Fr (AR r) h h' := by
  have b := kr_b P F hk g
  have n := kal_n P F hk g hx
  obtain ⟨h1, E1, R1, F1⟩ := c_assign (h := h) (r := r) (n := ky ks k * krun ks k + krise ks k * (x - kx ks k)) (d := krun ks k) ⟨by omega, by omega⟩ ⟨by omega, by omega⟩ (by omega) kr
  refine ⟨h1, ?_, R1, F1⟩
  unfold fX4_alongLine
  rw [if_pos W.1.1, c_runOf W F hk, bd_some, if_pos W.c3, if_pos (W.x hk).2.1, c_riseOf W F hk, bd_some, if_pos W.c1, if_pos (W.x hk).1, if_pos kr, (W.v hk).1, (W.v hk).2.1, i64_of32 ⟨by omega, by omega⟩, i64_mul, i64_sub, i64_mul, i64_add, E1, bd_some]
def VaI (ks : List Kn) (x : Int) (k : Nat) (lo : Option Nat) : Prop := (∀ j, j < k → kx ks j ≤ x) ∧ (∀ j, j < k → kg ks j = true → ¬ (kx ks j < x ∧ x < kx ks (j + 1))) ∧ match lo with
  | none => ∀ j, j < k → kx ks j ≠ x
  | some l => l < k ∧ l < ks.length ∧ kx ks l = x ∧ ∀ j, j < k → kx ks j = x → ky ks l ≤ ky ks j
theorem c_va123 (W : ShK h s cap ks) (P : StP ks) (F : StF ks) (kr : kc h r = 2) (R0 : Rt h r none) {k : Nat} {lo : Option Nat} (I : VaI ks x k lo) (hk : k ≤ ks.length) (hge : ∀ j, k ≤ j → j < ks.length → x < kx ks j) : ∃ h' v, fX4_valueAt_b123 s r (i32 (iO lo)) h = some ((), h') ∧ Rt h' r v ∧ IsV ks (x : Rat) v ∧ VB v ∧ Fr (AR r) h h' := by
  have hc := W.2.2
  obtain ⟨i1, i2, i3⟩ := I
  unfold fX4_valueAt_b123
  cases lo with
  | none =>
    rw [if_pos (by show i32 (-1) < 0; decide)]
    refine ⟨h, none, rfl, R0, IsV_no F (fun j hj => ?_) (fun j hj g => ?_), (fun y e => by cases e), Fr.rf h⟩
    · by_cases c : j < k
      · exact i3 j c
      · have := hge j (by omega) hj; omega
    · by_cases c : j < k
      · exact i2 j c g
      · have := hge j (by omega) hj; omega
  | some l =>
    obtain ⟨l1, l2, l3, l4⟩ := i3
    have b := P.b l2
    obtain ⟨h1, E1, R1, F1⟩ := c_assign (h := h) (r := r) (n := ky ks l) (d := 1) ⟨by omega, by omega⟩ ⟨by decide, by decide⟩ (by decide) kr
    have e1 : (ky ks l : Rat) / ((1 : Int) : Rat) = (ky ks l : Rat) := by
      have : ((1 : Int) : Rat) = 1 := rfl
      rw [this]; grind
    rw [e1] at R1
    refine ⟨h1, some (ky ks l : Rat), ?_, R1, IsV_kn F l2 l3 (fun j hj ex => ?_), VB_i (by omega), F1⟩
    · rw [if_neg (show ¬ i32 (iO (some l)) < 0 from nlt0 (by omega)), if_pos W.1.1, if_pos W.c3, if_pos (show ix (i32 (iO (some l))) _ from (W.x l2).2.1), if_pos kr, show hJ h (hR h s 3) (i32 (iO (some l))).toNatClampNeg = i64 (ky ks l) from (W.v l2).2.1, o64, E1, bd_some]
    · by_cases c : j < k
      · exact l4 j c ex
      · have := hge j (by omega) hj; omega
theorem c_va9 (W : ShK h s cap ks) (P : StP ks) (F : StF ks) (kr : kc h r = 2) (R0 : Rt h r none) (hx : -20000 ≤ x ∧ x ≤ 20000) : ∀ (d k m : Nat) (lo : Option Nat), k + d = ks.length → d < m → VaI ks x k lo → ∃ h' v, fX4_valueAt_l9 m s (i32 x) r (i32 (iO lo)) (i32 (k : Int)) h = some ((), h') ∧ Rt h' r v ∧ IsV ks (x : Rat) v ∧ VB v ∧ Fr (AR r) h h' := by
  have hc := W.2.2
  have bx : B64 x := ⟨by omega, by omega⟩
  have tx : (i32 x).toInt64 = i64 x := i64_of32 ⟨by omega, by omega⟩
  intro d
  induction d with
  | zero =>
    intro k m lo hk hm I
    obtain ⟨m, rfl⟩ : ∃ k, m = k + 1 := ⟨m - 1, by omega⟩
    show ∃ h' v, fX4_valueAt_b9 _ s _ _ _ _ h = _ ∧ _
    unfold fX4_valueAt_b9
    rw [if_pos W.1.1, W.2.1.1, if_pos (by rw [show k = ks.length by omega]; exact Int32.le_refl _)]
    exact c_va123 W P F kr R0 I (by omega) (fun j a b => by omega)
  | succ d ih =>
    intro k m lo hk hm I
    obtain ⟨m, rfl⟩ : ∃ k, m = k + 1 := ⟨m - 1, by omega⟩
    have hkl : k < ks.length := by omega
    show ∃ h' v, fX4_valueAt_b9 _ s _ _ _ _ h = _ ∧ _
    unfold fX4_valueAt_b9
    rw [if_pos W.1.1, W.2.1.1, if_neg (nle32 hkl (by omega)), if_pos W.c1, if_pos (W.x hkl).1, (W.v hkl).1, tx]
    by_cases c : x < kx ks k
    · rw [if_pos ((lz_gt (P.x64 hkl) bx).mpr c)]
      exact c_va123 W P F kr R0 I (by omega) (fun j a b => by have := F.1 k j a b; omega)
    · rw [if_neg (fun z => c ((lz_gt (P.x64 hkl) bx).mp z))]
      obtain ⟨i1, i2, i3⟩ := id I
      have i1' : ∀ j, j < k + 1 → kx ks j ≤ x := fun j hj => by
        by_cases e : j = k
        · rw [e]; omega
        · exact i1 j (by omega)
      -- behind it
      have b65 : kx ks k = x → (∀ l, lo = some l → ky ks k < ky ks l) → ∃ h' v, fX4_valueAt_b65 (fX4_valueAt_l9 m) s (i32 x) r (i32 (k : Int)) h = some ((), h') ∧ Rt h' r v ∧ IsV ks (x : Rat) v ∧ VB v ∧ Fr (AR r) h h' := by
        intro ek hlow
        unfold fX4_valueAt_b65 fX4_valueAt_b117
        rw [lt_def, one32, i32_add, kp1]
        refine ih (k + 1) m (some k) (by omega) (by omega) ⟨i1', fun j hj g => ?_, by omega, hkl, ek, fun j hj ex => ?_⟩
        · by_cases e : j = k
          · rw [e]; omega
          · exact i2 j (by omega) g
        · by_cases e : j = k
          · rw [e]; omega
          · cases lo with
            | none => exact absurd ex (i3 j (by omega))
            | some l =>
              have := i3.2.2.2 j (by omega) ex
              have := hlow l rfl
              omega
      have b71 : (kx ks k = x → ∃ l, lo = some l ∧ ky ks l ≤ ky ks k) → ∃ h' v, fX4_valueAt_b71 (fX4_valueAt_l9 m) s (i32 x) r (i32 (iO lo)) (i32 (k : Int)) h = some ((), h') ∧ Rt h' r v ∧ IsV ks (x : Rat) v ∧ VB v ∧ Fr (AR r) h h' := by
        intro hlow
        have go : ¬ (kg ks k = true ∧ kx ks k < x ∧ x < kx ks (k + 1)) → ∃ h' v, fX4_valueAt_b117 (fX4_valueAt_l9 m) s (i32 x) r (i32 (iO lo)) (i32 (k : Int)) h = some ((), h') ∧ Rt h' r v ∧ IsV ks (x : Rat) v ∧ VB v ∧ Fr (AR r) h h' := by
          intro hno
          unfold fX4_valueAt_b117
          rw [lt_def, one32, i32_add, kp1]
          refine ih (k + 1) m lo (by omega) (by omega) ⟨i1', fun j hj g => ?_, ?_⟩
          · by_cases e : j = k
            · rw [e] at g ⊢; exact fun z => hno ⟨g, z⟩
            · exact i2 j (by omega) g
          · cases lo with
            | none =>
              intro j hj
              by_cases e : j = k
              · rw [e]; intro z; obtain ⟨l, el, _⟩ := hlow z; cases el
              · exact i3 j (by omega)
            | some l =>
              obtain ⟨l1, l2, l3, l4⟩ := i3
              refine ⟨by omega, l2, l3, fun j hj ex => ?_⟩
              by_cases e : j = k
              · rw [e] at ex ⊢
                obtain ⟨l', el, hle⟩ := hlow ex
                rw [Option.some.inj el]; exact hle
              · exact l4 j (by omega) ex
        unfold fX4_valueAt_b71
        rw [if_pos W.1.1, c_hasLine W F hkl, bd_some]
        cases g : kg ks k
        · rw [if_pos bz_f]
          exact go (fun z => by rw [g] at z; cases z.1)
        · have f := F.2 k hkl g
          rw [if_neg bzt0, if_pos W.c1, if_pos (W.x hkl).1, (W.v hkl).1, tx]
          by_cases c2 : kx ks k < x
          · rw [if_neg (fun z => by have := (lz_ge (P.x64 hkl) bx).mp z; omega), one32, i32_add, kp1, if_pos (W.x f.1).1, (W.v f.1).1]
            by_cases c3 : x < kx ks (k + 1)
            · rw [if_neg (fun z => by have := (lz_ge bx (P.x64 f.1)).mp z; omega)]
              obtain ⟨h1, E1, R1, F1⟩ := c_alongLine W P F hkl g hx kr
              exact ⟨h1, _, by rw [E1, bd_some], R1, IsV_ln F hkl g c2 c3, VB_kal P F hkl g hx, F1⟩
            · rw [if_pos ((lz_ge bx (P.x64 f.1)).mpr (by omega))]
              exact go (fun z => c3 z.2.2)
          · rw [if_pos ((lz_ge (P.x64 hkl) bx).mpr (by omega))]
            exact go (fun z => c2 z.2.1)
      by_cases c1 : kx ks k = x
      · rw [if_pos ((lz_eq (P.x64 hkl) bx).mpr c1)]
        cases lo with
        | none =>
          rw [if_pos (by show i32 (-1) < 0; decide)]
          exact b65 c1 (fun l e => by cases e)
        | some l =>
          obtain ⟨l1, l2, l3, l4⟩ := i3
          rw [if_neg (show ¬ i32 (iO (some l)) < 0 from nlt0 (by omega)), if_pos W.c3, if_pos (W.x hkl).2.1, if_pos (show ix (i32 (iO (some l))) _ from (W.x l2).2.1), (W.v hkl).2.1, show hJ h (hR h s 3) (i32 (iO (some l))).toNatClampNeg = i64 (ky ks l) from (W.v l2).2.1]
          by_cases c2 : ky ks k < ky ks l
          · rw [if_neg (fun z => by have := (lz_ge (P.y64 hkl) (P.y64 l2)).mp z; omega)]
            exact b65 c1 (fun l' e => by rw [← Option.some.inj e]; exact c2)
          · rw [if_pos ((lz_ge (P.y64 hkl) (P.y64 l2)).mpr (by omega))]
            exact b71 (fun _ => ⟨l, rfl, by omega⟩)
      · rw [if_neg (fun z => c1 ((lz_eq (P.x64 hkl) bx).mp z))]
        exact b71 (fun z => absurd z c1)
theorem c_valueAt (W : ShK h s cap ks) (P : StP ks) (F : StF ks) (kr : kc h r = 2) (hx : -20000 ≤ x ∧ x ≤ 20000) : ∃ h' v, fX4_valueAt s (i32 x) r h = some ((), h') ∧ Rt h' r v ∧ IsV ks (x : Rat) v ∧ VB v ∧ Fr (AR r) h h' := by
  have hc := W.2.2
  obtain ⟨h1, E1, R1, F1⟩ := c_forget (h := h) (r := r) kr
  obtain ⟨h2, v, E2, R2, V2, B2, F2⟩ := c_va9 (W.far F1 kr) P F (by rw [F1.ekc]; exact kr) R1 hx ks.length 0 FU none (by omega) (by rw [FU_eq]; omega) ⟨fun j hj => by omega, fun j hj => by omega, fun j hj => by omega⟩
  refine ⟨h2, v, ?_, R2, V2, B2, F1.tr F2⟩
  unfold fX4_valueAt
  rw [if_pos kr, E1, bd_some, lt_def, lt_def]
  exact E2
theorem c_le6 (W : ShK h s cap ks) (P : StP ks) (F : StF ks) (kr : kc h r = 2) (R0 : Rt h r none) (hx : -20000 ≤ x ∧ x ≤ 20000) : ∀ (d k m : Nat), k + d = ks.length → d < m → (∀ j, j < k → kg ks j = true → ¬ cvr ks true (x : Rat) j) → ∃ h' v, fX4_leftEndAt_l6 m s (i32 x) r (i32 (k : Int)) h = some ((), h') ∧ Rt h' r v ∧ IsC ks true (x : Rat) v ∧ VB v ∧ Fr (AR r) h h' := by
  have hc := W.2.2
  have bx : B64 x := ⟨by omega, by omega⟩
  have tx : (i32 x).toInt64 = i64 x := i64_of32 ⟨by omega, by omega⟩
  intro d
  induction d with
  | zero =>
    intro k m hk hm I
    obtain ⟨m, rfl⟩ : ∃ k, m = k + 1 := ⟨m - 1, by omega⟩
    show ∃ h' v, fX4_leftEndAt_b6 _ s _ _ _ h = _ ∧ _
    unfold fX4_leftEndAt_b6
    rw [if_pos W.1.1, W.2.1.1, if_pos (by rw [show k = ks.length by omega]; exact Int32.le_refl _)]
    exact ⟨h, none, rfl, R0, IsC_no F (fun j hj => I j (by omega)), (fun y e => by cases e), Fr.rf h⟩
  | succ d ih =>
    intro k m hk hm I
    obtain ⟨m, rfl⟩ : ∃ k, m = k + 1 := ⟨m - 1, by omega⟩
    have hkl : k < ks.length := by omega
    show ∃ h' v, fX4_leftEndAt_b6 _ s _ _ _ h = _ ∧ _
    unfold fX4_leftEndAt_b6 fX4_leftEndAt_b56
    rw [if_pos W.1.1, W.2.1.1, if_neg (nle32 hkl (by omega)), c_hasLine W F hkl, bd_some]
    have go : ¬ (kg ks k = true ∧ cvr ks true (x : Rat) k) → ∃ h' v, (lt (i32 (k : Int) + 1) fun v1 => fX4_leftEndAt_l6 m s (i32 x) r v1 h) = some ((), h') ∧ Rt h' r v ∧ IsC ks true (x : Rat) v ∧ VB v ∧ Fr (AR r) h h' := by
      intro hno
      rw [lt_def, one32, i32_add, kp1]
      refine ih (k + 1) m (by omega) (by omega) (fun j hj g => ?_)
      by_cases e : j = k
      · rw [e] at g ⊢; exact fun z => hno ⟨g, z⟩
      · exact I j (by omega) g
    cases g : kg ks k
    · rw [if_pos bz_f]
      exact go (fun z => by rw [g] at z; cases z.1)
    · have f := F.2 k hkl g
      rw [if_neg bzt0, if_pos W.c1, if_pos (W.x hkl).1, (W.v hkl).1, tx]
      by_cases c2 : kx ks k < x
      · rw [if_neg (fun z => by have := (lz_ge (P.x64 hkl) bx).mp z; omega)]
        have ek : i32 (k : Int) + 1 = i32 ((k + 1 : Nat) : Int) := by rw [one32, i32_add]; rfl
        rw [if_pos (by rw [ek]; exact (W.x f.1).1), show hJ h (hR h s 1) (i32 (k : Int) + 1).toNatClampNeg = i64 (kx ks (k + 1)) by rw [ek]; exact (W.v f.1).1]
        by_cases c3 : x ≤ kx ks (k + 1)
        · rw [if_neg (fun z => by have := (lz_gt bx (P.x64 f.1)).mp z; omega)]
          obtain ⟨h1, E1, R1, F1⟩ := c_alongLine W P F hkl g hx kr
          exact ⟨h1, _, by rw [E1, bd_some], R1, IsC_k F hkl g (cvT.mpr ⟨c2, c3⟩), VB_kal P F hkl g hx, F1⟩
        · rw [if_pos ((lz_gt bx (P.x64 f.1)).mpr (by omega))]
          exact go (fun z => by have := cvT.mp z.2; omega)
      · rw [if_pos ((lz_ge (P.x64 hkl) bx).mpr (by omega))]
        exact go (fun z => by have := cvT.mp z.2; omega)
theorem c_leftEndAt (W : ShK h s cap ks) (P : StP ks) (F : StF ks) (kr : kc h r = 2) (hx : -20000 ≤ x ∧ x ≤ 20000) : ∃ h' v, fX4_leftEndAt s (i32 x) r h = some ((), h') ∧ Rt h' r v ∧ IsC ks true (x : Rat) v ∧ VB v ∧ Fr (AR r) h h' := by
  have hc := W.2.2
  obtain ⟨h1, E1, R1, F1⟩ := c_forget (h := h) (r := r) kr
  obtain ⟨h2, v, E2, R2, V2, B2, F2⟩ := c_le6 (W.far F1 kr) P F (by rw [F1.ekc]; exact kr) R1 hx ks.length 0 FU (by omega) (by rw [FU_eq]; omega) (fun j hj => by omega)
  refine ⟨h2, v, ?_, R2, V2, B2, F1.tr F2⟩
  unfold fX4_leftEndAt
  rw [if_pos kr, E1, bd_some, lt_def]
  exact E2
theorem c_rb6 (W : ShK h s cap ks) (P : StP ks) (F : StF ks) (kr : kc h r = 2) (R0 : Rt h r none) (hx : -20000 ≤ x ∧ x ≤ 20000) : ∀ (d k m : Nat), k + d = ks.length → d < m → (∀ j, j < k → kg ks j = true → ¬ cvr ks false (x : Rat) j) → ∃ h' v, fX4_rightBeginAt_l6 m s (i32 x) r (i32 (k : Int)) h = some ((), h') ∧ Rt h' r v ∧ IsC ks false (x : Rat) v ∧ VB v ∧ Fr (AR r) h h' := by
  have hc := W.2.2
  have bx : B64 x := ⟨by omega, by omega⟩
  have tx : (i32 x).toInt64 = i64 x := i64_of32 ⟨by omega, by omega⟩
  intro d
  induction d with
  | zero =>
    intro k m hk hm I
    obtain ⟨m, rfl⟩ : ∃ k, m = k + 1 := ⟨m - 1, by omega⟩
    show ∃ h' v, fX4_rightBeginAt_b6 _ s _ _ _ h = _ ∧ _
    unfold fX4_rightBeginAt_b6
    rw [if_pos W.1.1, W.2.1.1, if_pos (by rw [show k = ks.length by omega]; exact Int32.le_refl _)]
    exact ⟨h, none, rfl, R0, IsC_no F (fun j hj => I j (by omega)), (fun y e => by cases e), Fr.rf h⟩
  | succ d ih =>
    intro k m hk hm I
    obtain ⟨m, rfl⟩ : ∃ k, m = k + 1 := ⟨m - 1, by omega⟩
    have hkl : k < ks.length := by omega
    show ∃ h' v, fX4_rightBeginAt_b6 _ s _ _ _ h = _ ∧ _
    unfold fX4_rightBeginAt_b6 fX4_rightBeginAt_b56
    rw [if_pos W.1.1, W.2.1.1, if_neg (nle32 hkl (by omega)), c_hasLine W F hkl, bd_some]
    have go : ¬ (kg ks k = true ∧ cvr ks false (x : Rat) k) → ∃ h' v, (lt (i32 (k : Int) + 1) fun v1 => fX4_rightBeginAt_l6 m s (i32 x) r v1 h) = some ((), h') ∧ Rt h' r v ∧ IsC ks false (x : Rat) v ∧ VB v ∧ Fr (AR r) h h' := by
      intro hno
      rw [lt_def, one32, i32_add, kp1]
      refine ih (k + 1) m (by omega) (by omega) (fun j hj g => ?_)
      by_cases e : j = k
      · rw [e] at g ⊢; exact fun z => hno ⟨g, z⟩
      · exact I j (by omega) g
    cases g : kg ks k
    · rw [if_pos bz_f]
      exact go (fun z => by rw [g] at z; cases z.1)
    · have f := F.2 k hkl g
      rw [if_neg bzt0, if_pos W.c1, if_pos (W.x hkl).1, (W.v hkl).1, tx]
      by_cases c2 : kx ks k ≤ x
      · rw [if_neg (fun z => by have := (lz_gt (P.x64 hkl) bx).mp z; omega)]
        have ek : i32 (k : Int) + 1 = i32 ((k + 1 : Nat) : Int) := by rw [one32, i32_add]; rfl
        rw [if_pos (by rw [ek]; exact (W.x f.1).1), show hJ h (hR h s 1) (i32 (k : Int) + 1).toNatClampNeg = i64 (kx ks (k + 1)) by rw [ek]; exact (W.v f.1).1]
        by_cases c3 : x < kx ks (k + 1)
        · rw [if_neg (fun z => by have := (lz_ge bx (P.x64 f.1)).mp z; omega)]
          obtain ⟨h1, E1, R1, F1⟩ := c_alongLine W P F hkl g hx kr
          exact ⟨h1, _, by rw [E1, bd_some], R1, IsC_k F hkl g (cvF.mpr ⟨c2, c3⟩), VB_kal P F hkl g hx, F1⟩
        · rw [if_pos ((lz_ge bx (P.x64 f.1)).mpr (by omega))]
          exact go (fun z => by have := cvF.mp z.2; omega)
      · rw [if_pos ((lz_gt (P.x64 hkl) bx).mpr (by omega))]
        exact go (fun z => by have := cvF.mp z.2; omega)
theorem c_rightBeginAt (W : ShK h s cap ks) (P : StP ks) (F : StF ks) (kr : kc h r = 2) (hx : -20000 ≤ x ∧ x ≤ 20000) : ∃ h' v, fX4_rightBeginAt s (i32 x) r h = some ((), h') ∧ Rt h' r v ∧ IsC ks false (x : Rat) v ∧ VB v ∧ Fr (AR r) h h' := by
  have hc := W.2.2
  obtain ⟨h1, E1, R1, F1⟩ := c_forget (h := h) (r := r) kr
  obtain ⟨h2, v, E2, R2, V2, B2, F2⟩ := c_rb6 (W.far F1 kr) P F (by rw [F1.ekc]; exact kr) R1 hx ks.length 0 FU (by omega) (by rw [FU_eq]; omega) (fun j hj => by omega)
  refine ⟨h2, v, ?_, R2, V2, B2, F1.tr F2⟩
  unfold fX4_rightBeginAt
  rw [if_pos kr, E1, bd_some, lt_def]
  exact E2
end CV
