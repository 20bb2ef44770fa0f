/-! BOTH SIDES ASKED: split -/
noncomputable def vO (ks : List Kn) (x : Int) : Option Rat := Classical.epsilon (fun v => IsV ks (x : Rat) v)
theorem vO_eq {ks : List Kn} {x : Int} {v : Option Rat} (h : IsV ks (x : Rat) v) : vO ks x = v := IsV_one (Classical.epsilon_spec (p := fun v => IsV ks (x : Rat) v) ⟨v, h⟩) h
def stB (a : Rat) (u : Int) (b : Option (Rat × Int)) : Option (Rat × Int) := match b with
  | none => some (a, u)
  | some d => if a < d.1 ∨ (a = d.1 ∧ u < d.2) then some (a, u) else some d
noncomputable def stp (f g : List Kn) (x u : Int) (b : Option (Rat × Int)) : Option (Rat × Int) := match vO f u, vO g (x - u) with
  | some a, some c => stB (a + c) u b
  | _, _ => b
def SB (v : Rat) (u : Int) : Prop := (-100000000000000 ≤ v.num ∧ v.num ≤ 100000000000000) ∧ (v.den : Int) ≤ 150000000 ∧ -20000 ≤ u ∧ u ≤ 20000
def SpC (h : xH) (b : Option (Rat × Int)) : Prop := Rt h 90 (b.map (fun d => d.1)) ∧ ∀ v u, b = some (v, u) → hI h 2 14 = i32 u ∧ SB v u
def SpM (h : xH) (b : Option (Rat × Int)) : Prop := hI h 220 53 = bz b.isSome ∧ ∀ v u, b = some (v, u) → hI h 220 52 = i32 u ∧ (-20000 ≤ u ∧ u ≤ 20000) ∧ ∃ n d : Int, hJ h 220 50 = i64 n ∧ hJ h 220 51 = i64 d ∧ (-100000000000000 ≤ n ∧ n ≤ 100000000000000) ∧ 0 < d ∧ d ≤ 150000000 ∧ v = (n : Rat) / (d : Rat)
theorem rat_add (a c : Rat) : ((a.num * c.den + c.num * a.den : Int) : Rat) / (((a.den : Int) * (c.den : Int) : Int) : Rat) = a + c := by
  have h1 := rat_nd a
  have h2 := rat_nd c
  have d1 : ((a.den : Int) : Rat) ≠ 0 := by
    intro z
    have : (a.den : Int) = 0 := by exact_mod_cast z
    have := a.den_nz; omega
  have d2 : ((c.den : Int) : Rat) ≠ 0 := by
    intro z
    have : (c.den : Int) = 0 := by exact_mod_cast z
    have := c.den_nz; omega
  rw [Rat.intCast_add, Rat.intCast_mul, Rat.intCast_mul, Rat.intCast_mul]
  generalize ((a.den : Int) : Rat) = p at *
  generalize ((c.den : Int) : Rat) = q at *
  generalize (a.num : Rat) = m at *
  generalize (c.num : Rat) = n at *
  rw [← h1, ← h2]
  grind
section SP
variable {h : xH} {f g : List Kn} {x u : Int} {b : Option (Rat × Int)}
theorem Fr.rt {A : Nat → Nat → Prop} {h' : xH} {r : Nat} {v : Option Rat} (F : Fr A h h') (R : Rt h r v) (hA : ∀ k, ¬ A r k) : Rt h' r v := by
  refine ⟨by rw [(F.2.2 r 0 (hA 0)).1]; exact R.1, fun y e => ?_⟩
  rw [(F.2.2 r 1 (hA 1)).2, (F.2.2 r 2 (hA 2)).2]; exact R.2 y e
theorem Rt_sI14 {v : Option Rat} {r : Nat} {w : Int32} (R : Rt h r v) (hr : r ≠ 2) : Rt (sI h 2 14 w) r v := by
  refine ⟨?_, fun y e => R.2 y e⟩
  rw [hI_sI, if_neg (by omega)]; exact R.1
theorem c_ts100 (co : Co h) {a : Rat} (R1 : Rt h 88 (some a)) (hs : SB a u) : ∃ h', fX6_trySplit_b100 2 (i32 u) h = some ((), h') ∧ SpC h' (some (a, u)) ∧ Fr CSc h h' := by
  have e := R1.2 a rfl
  have dn := a.den_nz
  obtain ⟨s1, s2, s3⟩ := id hs
  obtain ⟨g1, E1, R2, F1⟩ := c_assign (h := h) (r := 90) (n := a.num) (d := a.den) ⟨by omega, by omega⟩ ⟨by omega, by omega⟩ (by omega) co.k90
  rw [rat_nd] at R2
  have f2 : Fr CSc g1 (sI g1 2 14 (i32 u)) := Fr.I _ (Or.inr ⟨rfl, rfl⟩)
  refine ⟨sI g1 2 14 (i32 u), ?_, ⟨Rt_sI14 R2 (by decide), fun v w ev => ?_⟩, (F1.mono (fun _ _ z => AR_cs (by decide) (by decide) z)).tr f2⟩
  · unfold fX6_trySplit_b100
    rw [if_pos co.k2, co.r2_11, if_pos co.k88, co.r2_13, if_pos co.k90, e.1, e.2, E1, bd_some, lt_def]
  · have ev := Option.some.inj ev
    have e1 : a = v := congrArg Prod.fst ev
    have e2 : u = w := congrArg Prod.snd ev
    rw [← e1, ← e2]
    exact ⟨by rw [hI_sI, if_pos ⟨rfl, rfl⟩], hs⟩
theorem c_trySplit (co : Co h) {s1 s2 c1 c2 : Nat} (W1 : ShK h s1 c1 f) (W2 : ShK h s2 c2 g) (O1 : StO f) (O2 : StO g) (hx : -5940 ≤ x ∧ x ≤ 5940) (hu : -12000 ≤ u ∧ u ≤ 12000) (S : SpC h b) : ∃ h', fX6_trySplit 2 s1 s2 (i32 x) (i32 u) h = some ((), h') ∧ SpC h' (stp f g x u b) ∧ Fr CSc h h' := by
  obtain ⟨g1, v1, E1, R1, V1, B1, F1⟩ := c_valueAt W1 O1.2.1 O1.2.2 co.k88 (x := u) (by omega)
  have co1 := F1.co co
  obtain ⟨g2, v2, E2, R2, V2, B2, F2⟩ := c_valueAt (W2.far F1 co.k88) O2.2.1 O2.2.2 co1.k89 (x := x - u) (by omega)
  have co2 := F2.co co1
  have f1 := F1.mono (B := CSc) (fun _ _ z => AR_cs (by decide) (by decide) z)
  have f2 := F2.mono (B := CSc) (fun _ _ z => AR_cs (by decide) (by decide) z)
  have R1' := F2.rt R1 (fun k z => by have := z.1; omega)
  have S2 : SpC g2 b := by
    refine ⟨F2.rt (F1.rt S.1 (fun k z => by have := z.1; omega)) (fun k z => by have := z.1; omega), fun v w e => ?_⟩
    rw [(F2.2.2 2 14 (fun z => by have := z.1; omega)).1, (F1.2.2 2 14 (fun z => by have := z.1; omega)).1]
    exact S.2 v w e
  have es : stp f g x u b = (match v1, v2 with
    | some a, some c => stB (a + c) u b
    | _, _ => b) := by unfold stp; rw [vO_eq V1, vO_eq V2]; cases v1 <;> cases v2 <;> rfl
  rw [es]
  unfold fX6_trySplit
  rw [if_pos co.k2, if_pos W1.1.1, co.r2_11, E1, bd_some, F1.ekc, if_pos W2.1.1, i32_sub, F1.ehR, co.r2_12, E2, bd_some, F2.ehR, F1.ehR, co.r2_11, if_pos co2.k88, R1'.1]
  cases v1 with
  | none => rw [if_pos (by rfl)]; exact ⟨g2, rfl, S2, f1.tr f2⟩
  | some a =>
    rw [if_neg (show ¬ bz (some a).isSome = 0 from bzt0), F2.ehR, F1.ehR, co.r2_12, if_pos co2.k89, R2.1]
    cases v2 with
    | none => rw [if_pos (by rfl)]; exact ⟨g2, rfl, S2, f1.tr f2⟩
    | some c =>
      rw [if_neg (show ¬ bz (some c).isSome = 0 from bzt0)]
      have b1 := B1 a rfl
      have b2 := B2 c rfl
      have da := a.den_nz
      have dc := c.den_nz
      have m1 := mul_bd (a := a.num) (b := c.den) (A := 1000000000) (B := 12000) b1.1 ⟨by omega, by omega⟩
      have m2 := mul_bd (a := c.num) (b := a.den) (A := 1000000000) (B := 12000) b2.1 ⟨by omega, by omega⟩
      have m3 := mul_bd (a := (a.den : Int)) (b := c.den) (A := 12000) (B := 12000) ⟨by omega, by omega⟩ ⟨by omega, by omega⟩
      have p3 : 0 < (a.den : Int) * (c.den : Int) := Int.mul_pos (by omega) (by omega)
      have ea := R1'.2 a rfl
      have ec := R2.2 c rfl
      obtain ⟨g3, E3, R3, F3⟩ := c_assign (h := g2) (r := 88) (n := a.num * c.den + c.num * a.den) (d := (a.den : Int) * (c.den : Int)) ⟨by omega, by omega⟩ ⟨by omega, by omega⟩ (by omega) co2.k88
      have hb := rat_b (n := a.num * c.den + c.num * a.den) (d := (a.den : Int) * (c.den : Int)) (M := 100000000000000) p3 ⟨by omega, by omega⟩
      rw [rat_add] at R3 hb
      have sb : SB (a + c) u := ⟨hb.1, by omega, by omega⟩
      have co3 := F3.co co2
      have f3 := F3.mono (B := CSc) (fun _ _ z => AR_cs (by decide) (by decide) z)
      have S3 : SpC g3 b := by
        refine ⟨F3.rt S2.1 (fun k z => by have := z.1; omega), fun v w e => ?_⟩
        rw [(F3.2.2 2 14 (fun z => by have := z.1; omega)).1]
        exact S2.2 v w e
      have eadd : fX2_add 88 89 g2 = some ((), g3) := by
        unfold fX2_add
        rw [if_pos co2.k88, if_pos co2.k89, ea.1, ea.2, ec.1, ec.2, i64_mul, i64_mul, i64_add, i64_mul, E3, bd_some]
      rw [eadd, bd_some, F3.ehR, F2.ehR, F1.ehR, co.r2_13, if_pos co3.k90, S3.1.1]
      obtain ⟨g4, E4, S4, F4⟩ := c_ts100 co3 R3 sb
      cases b with
      | none =>
        rw [if_pos (by rfl)]
        refine ⟨g4, ?_, S4, ((f1.tr f2).tr f3).tr F4⟩
        unfold fX6_trySplit_b79
        rw [if_pos (by decide)]
        exact E4
      | some d =>
        rw [if_neg (show ¬ bz ((some d).map (fun d => d.1)).isSome = 0 from bzt0), F3.ehR, F2.ehR, F1.ehR, co.r2_11, if_pos co3.k88]
        have e3 := R3.2 _ rfl
        have ed := S3.1.2 d.1 rfl
        have sd := S3.2 d.1 d.2 rfl
        have dd := d.1.den_nz
        have ds := (a + c).den_nz
        have bb := mul_bd (a := ((a + c).den : Int)) (b := d.1.den) (A := 150000000) (B := 150000000) ⟨by have := sb.2.1; omega, sb.2.1⟩ ⟨by have := sd.2.2.1; omega, sd.2.2.1⟩
        have eo : fX2_orderTo 88 90 g3 = some (i32 (sg ((a + c).num * d.1.den - d.1.num * (a + c).den)), g3) := by
          unfold fX2_orderTo
          have q1 := sb.1
          have q2 := sd.2.1
          rw [if_pos co3.k88, if_pos co3.k90, e3.1, e3.2, ed.1, ed.2, c_order (a := (a + c).num) (b := (a + c).den) (c := d.1.num) (d := d.1.den) ⟨by omega, by omega⟩ (by omega) ⟨by omega, by omega⟩ (by omega) (by omega), bd_some]
        rw [eo, bd_some]
        unfold fX6_trySplit_b79 stB
        simp only [si_lt, si_eq, sr_lt, sr_eq]
        by_cases k1 : a + c < d.1
        · rw [if_pos k1, if_pos (Or.inl k1)]
          exact ⟨g4, E4, S4, ((f1.tr f2).tr f3).tr F4⟩
        · rw [if_neg k1]
          by_cases k2 : a + c = d.1
          · rw [if_pos k2, if_pos co3.k2, sd.1]
            by_cases k3 : d.2 ≤ u
            · rw [if_pos ((i32_le (by have := sd.2.2.2; exact ⟨by omega, by omega⟩) ⟨by omega, by omega⟩).mpr k3), if_neg (fun z => by rcases z with z | z; exact k1 z; omega)]
              exact ⟨g3, rfl, S3, (f1.tr f2).tr f3⟩
            · rw [if_neg (fun z => k3 ((i32_le (by have := sd.2.2.2; exact ⟨by omega, by omega⟩) ⟨by omega, by omega⟩).mp z)), if_pos (Or.inr ⟨k2, by omega⟩)]
              exact ⟨g4, E4, S4, ((f1.tr f2).tr f3).tr F4⟩
          · rw [if_neg k2, if_neg (fun z => by rcases z with z | z; exact k1 z; exact k2 z.1)]
            exact ⟨g3, rfl, S3, (f1.tr f2).tr f3⟩
theorem SpM.fr {h' : xH} {A : Nat → Nat → Prop} (S : SpM h b) (F : Fr A h h') (hA : ¬ A 220 50 ∧ ¬ A 220 51 ∧ ¬ A 220 52 ∧ ¬ A 220 53) : SpM h' b := by
  refine ⟨by rw [(F.2.2 220 53 hA.2.2.2).1]; exact S.1, fun v u e => ?_⟩
  have := S.2 v u e
  rw [(F.2.2 220 52 hA.2.2.1).1, (F.2.2 220 50 hA.1).2, (F.2.2 220 51 hA.2.1).2]
  exact this
end SP
