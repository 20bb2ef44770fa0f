/-! BOTH SIDES ASKED: compare, the class -/
noncomputable def cO (ks : List Kn) (sd : Bool) (x : Int) : Option Rat := Classical.epsilon (fun v => IsC ks sd (x : Rat) v)
theorem cO_eq {ks : List Kn} (F : StF ks) {sd : Bool} {x : Int} {v : Option Rat} (h : IsC ks sd (x : Rat) v) : cO ks sd x = v := IsC_one F (Classical.epsilon_spec (p := fun v => IsC ks sd (x : Rat) v) ⟨v, h⟩) h
abbrev Obs : Type := List (Rat × Rat)
def pr (v w : Option Rat) : Obs := match v, w with
  | some a, some b => [(a, b)]
  | _, _ => []
def obM (ob : Obs) : Bool := !ob.isEmpty
def obL (ob : Obs) : Bool := ob.any (fun p => decide (p.1 < p.2))
def obH (ob : Obs) : Bool := ob.any (fun p => decide (p.2 < p.1))
noncomputable def trC (f g : List Kn) (x : Int) : Obs := pr (vO f x) (vO g x) ++ (pr (cO f true x) (cO g true x) ++ pr (cO f false x) (cO g false x))
def RvC (h : xH) (ob : Obs) : Prop := hI h 91 0 = bz (obM ob) ∧ hI h 91 1 = bz (obL ob) ∧ hI h 91 2 = bz (obH ob)
theorem o_app (ob : Obs) (a b : Rat) : obM (ob ++ [(a, b)]) = true ∧ obL (ob ++ [(a, b)]) = (obL ob || decide (a < b)) ∧ obH (ob ++ [(a, b)]) = (obH ob || decide (b < a)) := by
  refine ⟨?_, ?_, ?_⟩
  · unfold obM; cases ob <;> simp
  · unfold obL; simp
  · unfold obH; simp
def A91 (r k : Nat) : Prop := r = 91 ∧ k ≤ 2
section CM
variable {h : xH} {f g : List Kn} {x : Int} {ob : Obs}
theorem bz_or (b : Bool) : (bz b = 0 ∨ bz b = 1) := bz_01 b
theorem c_j55 (k : kc h 91 = 3) {l hh : Bool} {z : Int} (e : hI h 91 2 = bz hh) : fX3_judge_b55 (bz l) 91 91 (i32 (sg z)) h = some ((), sI (sI h 91 1 (bz l)) 91 2 (bz (hh || decide (0 < sg z)))) := by
  unfold fX3_judge_b55 fX3_judge_b70 fX3_judge_b75
  have e2 : hI (sI h 91 1 (bz l)) 91 2 = bz hh := by rw [hI_sI, if_neg (by omega)]; exact e
  have kk : kc (sI h 91 1 (bz l)) 91 = 3 := k
  rw [if_pos (bz_or l), if_pos k, lt_def, if_pos kk, e2]
  cases hh
  · rw [if_pos bz_f]
    by_cases c : sg z ≤ 0
    · rw [if_pos ((si_le z).mpr c), if_pos (show (0 : Int32) = 0 ∨ (0 : Int32) = 1 from Or.inl rfl), if_pos kk, lt_def, decide_eq_false (by omega)]; rfl
    · rw [if_neg (fun y => c ((si_le z).mp y)), if_pos (show (1 : Int32) = 0 ∨ (1 : Int32) = 1 from Or.inr rfl), if_pos kk, lt_def, decide_eq_true (by omega)]; rfl
  · rw [if_neg bzt0, if_pos (show (1 : Int32) = 0 ∨ (1 : Int32) = 1 from Or.inr rfl), if_pos kk, lt_def]; rfl
theorem c_judge (co : Co h) {v1 v2 : Option Rat} (R1 : Rt h 92 v1) (R2 : Rt h 93 v2) (B1 : VB v1) (B2 : VB v2) (V : RvC h ob) : ∃ h', fX3_judge 91 h = some ((), h') ∧ RvC h' (ob ++ pr v1 v2) ∧ Fr A91 h h' := by
  unfold fX3_judge
  rw [if_pos co.k91, co.r91_3, if_pos co.k92, R1.1]
  cases v1 with
  | none => rw [if_pos (by rfl)]; exact ⟨h, rfl, by unfold pr; rw [List.append_nil]; exact V, Fr.rf h⟩
  | some a =>
    rw [if_neg (show ¬ bz (some a).isSome = 0 from bzt0), co.r91_4, if_pos co.k93, R2.1]
    cases v2 with
    | none => rw [if_pos (by rfl)]; exact ⟨h, rfl, by unfold pr; rw [List.append_nil]; exact V, Fr.rf h⟩
    | some b =>
      rw [if_neg (show ¬ bz (some b).isSome = 0 from bzt0), lt_def]
      have f0 : Fr A91 h (sI h 91 0 1) := Fr.I _ ⟨rfl, by omega⟩
      have e1 := R1.2 a rfl
      have e2 := R2.2 b rfl
      have b1 := B1 a rfl
      have b2 := B2 b rfl
      have da := a.den_nz
      have db := b.den_nz
      have m3 := mul_bd (a := (a.den : Int)) (b := b.den) (A := 12000) (B := 12000) ⟨by omega, by omega⟩ ⟨by omega, by omega⟩
      have eo : fX2_orderTo 92 93 (sI h 91 0 1) = some (i32 (sg (a.num * b.den - b.num * a.den)), sI h 91 0 1) := by
        unfold fX2_orderTo
        rw [if_pos (by rw [kc_sI]; exact co.k92), if_pos (by rw [kc_sI]; exact co.k93), hJ_sI, hJ_sI, hJ_sI, hJ_sI, e1.1, e1.2, e2.1, e2.2, c_order (a := a.num) (b := a.den) (c := b.num) (d := b.den) ⟨by omega, by omega⟩ (by omega) ⟨by omega, by omega⟩ (by omega) (by omega), bd_some]
      have l1 : hI (sI h 91 0 1) 91 1 = bz (obL ob) := by rw [hI_sI, if_neg (by omega)]; exact V.2.1
      have l2 : hI (sI h 91 0 1) 91 2 = bz (obH ob) := by rw [hI_sI, if_neg (by omega)]; exact V.2.2
      rw [hR_sI, hR_sI, co.r91_3, co.r91_4, if_pos (by rw [kc_sI]; exact co.k92), eo, bd_some, l1]
      have oa := o_app ob a b
      have fin : ∀ l : Bool, l = obL (ob ++ [(a, b)]) → ∃ h', fX3_judge_b55 (bz l) 91 91 (i32 (sg (a.num * b.den - b.num * a.den))) (sI h 91 0 1) = some ((), h') ∧ RvC h' (ob ++ pr (some a) (some b)) ∧ Fr A91 h h' := by
        intro l el
        refine ⟨_, c_j55 (by rw [kc_sI]; exact co.k91) l2, ?_, f0.tr ((Fr.I _ ⟨rfl, by omega⟩).tr (Fr.I _ ⟨rfl, by omega⟩))⟩
        have dd : decide (0 < sg (a.num * (b.den : Int) - b.num * (a.den : Int))) = decide (b < a) := decide_eq_decide.mpr sr_gt
        rw [dd]
        unfold pr
        refine ⟨?_, ?_, ?_⟩
        · rw [oa.1]; simp [hI_sI, bz]
        · rw [el]; simp [hI_sI]
        · rw [oa.2.2]; simp [hI_sI]
      unfold fX3_judge_b50
      simp only [si_ge, sr_ge]
      cases ho : obL ob
      · rw [if_pos bz_f]
        by_cases c : b ≤ a
        · rw [if_pos c]
          exact fin false (by rw [oa.2.1, ho, decide_eq_false (by grind)]; rfl)
        · rw [if_neg c]
          exact fin true (by rw [oa.2.1, ho, decide_eq_true (by grind)]; rfl)
      · rw [if_neg bzt0]
        exact fin true (by rw [oa.2.1, ho]; rfl)
theorem RvC.fr {h' : xH} {A : Nat → Nat → Prop} (V : RvC h ob) (F : Fr A h h') (hA : ∀ k, ¬ A 91 k) : RvC h' ob := by
  unfold RvC
  rw [(F.2.2 91 0 (hA 0)).1, (F.2.2 91 1 (hA 1)).1, (F.2.2 91 2 (hA 2)).1]
  exact V
theorem A91_cs {r k : Nat} (z : A91 r k) : CSc r k := by unfold A91 at z; unfold CSc; omega
noncomputable def sCm (ks f g : List Kn) (k : Nat) (ob : Obs) : Obs := ob ++ trC f g (kx ks k)
theorem c_mk3 {cur : Nat → List Kn} (C : CurOk cur) {i j l : Nat} (hi : i < 6) (hj : j < 6) (hl : l < 6) : ∀ (d k m : Nat) (h : xH) (ob : Obs), k + d = (cur l).length → d < m → CI0 h cur → RvC h ob → ∃ h', fX3_meetAtKnotsOf_l3 m 91 (hR h 3 l) (hR h 3 i) (hR h 3 j) (i32 (k : Int)) h = some ((), h') ∧ RvC h' (fo (sCm (cur l) (cur i) (cur j)) d k ob) ∧ Fr CSc h h' := by
  have O1 := (C.1 i hi).1
  have O2 := (C.1 j hj).1
  have O3 := (C.1 l hl).1
  have n92 : ∀ k, ¬ AR 92 91 k := fun k z => by have := z.1; omega
  have n93 : ∀ k, ¬ AR 93 91 k := fun k z => by have := z.1; omega
  intro d
  induction d with
  | zero =>
    intro k m h ob hk hm I V
    obtain ⟨m, rfl⟩ : ∃ k, m = k + 1 := ⟨m - 1, by omega⟩
    obtain ⟨cap, W⟩ := I.2 l (by omega)
    refine ⟨h, ?_, V, Fr.rf h⟩
    show fX3_meetAtKnotsOf_b3 _ 91 _ _ _ _ h = _
    unfold fX3_meetAtKnotsOf_b3
    rw [if_pos W.1.1, W.2.1.1, if_pos (by rw [show k = (cur l).length by omega]; exact Int32.le_refl _)]
  | succ d ih =>
    intro k m h ob hk hm I V
    obtain ⟨m, rfl⟩ : ∃ k, m = k + 1 := ⟨m - 1, by omega⟩
    have hkl : k < (cur l).length := by omega
    have h12 := O3.1
    have bk := O3.2.1.b hkl
    obtain ⟨cl, Wl⟩ := I.2 l (by omega)
    -- a step: both sides told, then judged
    have stepV : ∀ (h : xH) (ob : Obs), CI0 h cur → RvC h ob → ∃ g1 g2 g3, fX4_valueAt (hR h 3 i) (i32 (kx (cur l) k)) 92 h = some ((), g1) ∧ fX4_valueAt (hR h 3 j) (i32 (kx (cur l) k)) 93 g1 = some ((), g2) ∧ fX3_judge 91 g2 = some ((), g3) ∧ RvC g3 (ob ++ pr (vO (cur i) (kx (cur l) k)) (vO (cur j) (kx (cur l) k))) ∧ Fr CSc h g1 ∧ Fr CSc h g2 ∧ Fr CSc h g3 := by
      intro h ob I V
      obtain ⟨c1, W1⟩ := I.2 i (by omega)
      obtain ⟨c2, W2⟩ := I.2 j (by omega)
      have co := I.1
      obtain ⟨g1, v1, E1, R1, V1, B1, F1⟩ := c_valueAt W1 O1.2.1 O1.2.2 co.k92 (x := kx (cur l) k) (by omega)
      have co1 := F1.co co
      obtain ⟨g2, v2, E2, R2, V2, B2, F2⟩ := c_valueAt (W2.far F1 co.k92) O2.2.1 O2.2.2 co1.k93 (x := kx (cur l) k) (by omega)
      have f1 := F1.mono (B := CSc) (fun _ _ z => AR_cs (by decide) (by decide) z)
      have f2 := F2.mono (B := CSc) (fun _ _ z => AR_cs (by decide) (by decide) z)
      obtain ⟨g3, E3, V3, F3⟩ := c_judge (F2.co co1) (F2.rt R1 (fun k z => by have := z.1; omega)) R2 B1 B2 ((V.fr F1 n92).fr F2 n93)
      rw [vO_eq V1, vO_eq V2]
      exact ⟨g1, g2, g3, E1, E2, E3, V3, f1, f1.tr f2, (f1.tr f2).tr (F3.mono (fun _ _ z => A91_cs z))⟩
    have stepL : ∀ (h : xH) (ob : Obs), CI0 h cur → RvC h ob → ∃ g1 g2 g3, fX4_leftEndAt (hR h 3 i) (i32 (kx (cur l) k)) 92 h = some ((), g1) ∧ fX4_leftEndAt (hR h 3 j) (i32 (kx (cur l) k)) 93 g1 = some ((), g2) ∧ fX3_judge 91 g2 = some ((), g3) ∧ RvC g3 (ob ++ pr (cO (cur i) true (kx (cur l) k)) (cO (cur j) true (kx (cur l) k))) ∧ Fr CSc h g1 ∧ Fr CSc h g2 ∧ Fr CSc h g3 := by
      intro h ob I V
      obtain ⟨c1, W1⟩ := I.2 i (by omega)
      obtain ⟨c2, W2⟩ := I.2 j (by omega)
      have co := I.1
      obtain ⟨g1, v1, E1, R1, V1, B1, F1⟩ := c_leftEndAt W1 O1.2.1 O1.2.2 co.k92 (x := kx (cur l) k) (by omega)
      have co1 := F1.co co
      obtain ⟨g2, v2, E2, R2, V2, B2, F2⟩ := c_leftEndAt (W2.far F1 co.k92) O2.2.1 O2.2.2 co1.k93 (x := kx (cur l) k) (by omega)
      have f1 := F1.mono (B := CSc) (fun _ _ z => AR_cs (by decide) (by decide) z)
      have f2 := F2.mono (B := CSc) (fun _ _ z => AR_cs (by decide) (by decide) z)
      obtain ⟨g3, E3, V3, F3⟩ := c_judge (F2.co co1) (F2.rt R1 (fun k z => by have := z.1; omega)) R2 B1 B2 ((V.fr F1 n92).fr F2 n93)
      rw [cO_eq O1.2.2 V1, cO_eq O2.2.2 V2]
      exact ⟨g1, g2, g3, E1, E2, E3, V3, f1, f1.tr f2, (f1.tr f2).tr (F3.mono (fun _ _ z => A91_cs z))⟩
    have stepR : ∀ (h : xH) (ob : Obs), CI0 h cur → RvC h ob → ∃ g1 g2 g3, fX4_rightBeginAt (hR h 3 i) (i32 (kx (cur l) k)) 92 h = some ((), g1) ∧ fX4_rightBeginAt (hR h 3 j) (i32 (kx (cur l) k)) 93 g1 = some ((), g2) ∧ fX3_judge 91 g2 = some ((), g3) ∧ RvC g3 (ob ++ pr (cO (cur i) false (kx (cur l) k)) (cO (cur j) false (kx (cur l) k))) ∧ Fr CSc h g1 ∧ Fr CSc h g2 ∧ Fr CSc h g3 := by
      intro h ob I V
      obtain ⟨c1, W1⟩ := I.2 i (by omega)
      obtain ⟨c2, W2⟩ := I.2 j (by omega)
      have co := I.1
      obtain ⟨g1, v1, E1, R1, V1, B1, F1⟩ := c_rightBeginAt W1 O1.2.1 O1.2.2 co.k92 (x := kx (cur l) k) (by omega)
      have co1 := F1.co co
      obtain ⟨g2, v2, E2, R2, V2, B2, F2⟩ := c_rightBeginAt (W2.far F1 co.k92) O2.2.1 O2.2.2 co1.k93 (x := kx (cur l) k) (by omega)
      have f1 := F1.mono (B := CSc) (fun _ _ z => AR_cs (by decide) (by decide) z)
      have f2 := F2.mono (B := CSc) (fun _ _ z => AR_cs (by decide) (by decide) z)
      obtain ⟨g3, E3, V3, F3⟩ := c_judge (F2.co co1) (F2.rt R1 (fun k z => by have := z.1; omega)) R2 B1 B2 ((V.fr F1 n92).fr F2 n93)
      rw [cO_eq O1.2.2 V1, cO_eq O2.2.2 V2]
      exact ⟨g1, g2, g3, E1, E2, E3, V3, f1, f1.tr f2, (f1.tr f2).tr (F3.mono (fun _ _ z => A91_cs z))⟩
    obtain ⟨a1, a2, a3, A1, A2, A3, AV, Af1, Af2, Af⟩ := stepV h ob I V
    obtain ⟨b1, b2, b3, B1, B2, B3, BV, Bf1, Bf2, Bf⟩ := stepL a3 _ (I.fc Af) AV
    obtain ⟨c1, c2, c3, C1, C2, C3, CV, Cf1, Cf2, Cf⟩ := stepR b3 _ ((I.fc Af).fc Bf) BV
    have FF := (Af.tr Bf).tr Cf
    have eo : ob ++ pr (vO (cur i) (kx (cur l) k)) (vO (cur j) (kx (cur l) k)) ++ pr (cO (cur i) true (kx (cur l) k)) (cO (cur j) true (kx (cur l) k)) ++ pr (cO (cur i) false (kx (cur l) k)) (cO (cur j) false (kx (cur l) k)) = sCm (cur l) (cur i) (cur j) k ob := by
      unfold sCm trC
      simp only [List.append_assoc]
    rw [eo] at CV
    obtain ⟨g9, E9, V9, F9⟩ := ih (k + 1) m c3 _ (by omega) (by omega) (I.fc FF) CV
    rw [FF.ehR, FF.ehR, FF.ehR] at E9
    rw [Af.ehR] at B2
    rw [Af.ehR] at B1
    rw [Bf.ehR, Af.ehR] at C1 C2
    refine ⟨g9, ?_, V9, FF.tr F9⟩
    obtain ⟨ci, Wi⟩ := I.2 i (by omega)
    obtain ⟨cj, Wj⟩ := I.2 j (by omega)
    have co := I.1
    show fX3_meetAtKnotsOf_b3 _ 91 _ _ _ _ h = _
    unfold fX3_meetAtKnotsOf_b3
    have t2 : hR a2 91 3 = 92 := by rw [Af2.ehR]; exact co.r91_3
    have t3 : hR a3 91 3 = 92 := by rw [Af.ehR]; exact co.r91_3
    have t4 : hR b1 91 4 = 93 := by rw [Bf1.ehR, Af.ehR]; exact co.r91_4
    have t5 : hR b3 91 3 = 92 := by rw [Bf.ehR, Af.ehR]; exact co.r91_3
    have t6 : hR c1 91 4 = 93 := by rw [Cf1.ehR, Bf.ehR, Af.ehR]; exact co.r91_4
    have t7 : hR a1 91 4 = 93 := by rw [Af1.ehR]; exact co.r91_4
    have t8 : kc a1 (hR h 3 j) = 4 := by rw [Af1.ekc]; exact Wj.1.1
    rw [if_pos Wl.1.1, Wl.2.1.1, if_neg (nle32 hkl (by omega)), c_xAt Wl hkl, bd_some, if_pos co.k91, if_pos Wi.1.1, co.r91_3, A1, bd_some, if_pos t8, t7, A2, bd_some, A3, bd_some, t3, B1, bd_some, t4, B2, bd_some, B3, bd_some, t5, C1, bd_some, t6, C2, bd_some, C3, bd_some, lt_def, one32, i32_add, kp1]
    exact E9
noncomputable def obC (f g : List Kn) : Obs := fo (sCm g f g) g.length 0 (fo (sCm f f g) f.length 0 [])
/-- the verdict -/
def vdt (ob : Obs) : Int := if obM ob = false then 3 else if obL ob = true ∧ obH ob = true then 2 else if obL ob = true then -1 else if obH ob = true then 1 else 0
theorem c_verdict (k : kc h 91 = 3) (V : RvC h ob) : fX3_verdict 91 h = some (i32 (vdt ob), h) := by
  unfold fX3_verdict fX3_verdict_b25 vdt
  rw [if_pos k, if_pos k, V.1, V.2.1, V.2.2]
  cases obM ob <;> cases obL ob <;> cases obH ob <;> rfl
end CM
