/-! where: the class -/
section WH
variable {h : xH} {s cap : Nat} {ks : List Kn} {y : Int} {p : Rat}
theorem cnd_cases (F : StF ks) (hc : cnd ks y p) : (∃ j, j < ks.length ∧ p = (kx ks j : Rat)) ∨ (∃ i, i < ks.length ∧ kg ks i = true ∧ btw y (ky ks i) (ky ks (i + 1)) ∧ p = crs ks y i) := by
  obtain ⟨hv, hk | ⟨m, hm, hb, hcov, hvl⟩⟩ := hc
  · exact Or.inl hk
  · rcases span_g F hm with ⟨i, hi, gi, ei⟩ | ⟨i, hi, ei⟩
    · obtain ⟨sl1, hs, e1, e2, e3⟩ := lin_s F hi gi
      have ff := F.2 i hi gi
      have h' := lt_cast ff.2
      unfold cov at hcov
      rw [ei, e1, e2] at hcov
      rw [ei, e3] at hvl
      by_cases c1 : p = (kx ks i : Rat)
      · exact Or.inl ⟨i, hi, c1⟩
      · by_cases c2 : p = (kx ks (i + 1) : Rat)
        · exact Or.inl ⟨i + 1, ff.1, c2⟩
        · right
          have n0 : sl1 ≠ 0 := by
            intro z
            apply hb
            rw [ei]
            unfold lby
            rw [if_neg (by show ¬ kx ks i = kx ks (i + 1); omega)]
            show ky ks (i + 1) - ky ks i = 0
            rw [z] at hs
            have h5 : (ky ks (i + 1) : Rat) = (ky ks i : Rat) := by grind
            have : ky ks (i + 1) = ky ks i := by exact_mod_cast h5
            omega
          have er' : ((krise ks i : Int) : Rat) = (ky ks (i + 1) : Rat) - (ky ks i : Rat) := by unfold krise; rw [if_pos gi, Rat.intCast_sub]
          have eu' : ((krun ks i : Int) : Rat) = (kx ks (i + 1) : Rat) - (kx ks i : Rat) := by unfold krun; rw [if_pos gi, Rat.intCast_sub]
          refine ⟨i, hi, gi, ?_, ?_⟩
          · unfold btw
            rw [← Rat.intCast_lt_intCast, ← Rat.intCast_lt_intCast, ← Rat.intCast_lt_intCast, ← Rat.intCast_lt_intCast]
            rcases (show 0 < sl1 ∨ sl1 < 0 by grind) with z | z
            · left
              have m1 := Rat.mul_pos z (show 0 < p - (kx ks i : Rat) by grind)
              have m2 := Rat.mul_pos z (show 0 < (kx ks (i + 1) : Rat) - p by grind)
              grind
            · right
              have m1 := Rat.mul_pos (show 0 < -sl1 by grind) (show 0 < p - (kx ks i : Rat) by grind)
              have m2 := Rat.mul_pos (show 0 < -sl1 by grind) (show 0 < (kx ks (i + 1) : Rat) - p by grind)
              grind
          · unfold crs
            have rn : ((krise ks i : Int) : Rat) ≠ 0 := by
              intro z
              rw [er', hs] at z
              have : sl1 * ((kx ks (i + 1) : Rat) - (kx ks i : Rat)) = 0 := by grind
              rcases Rat.mul_eq_zero.mp this with z1 | z1
              · exact n0 z1
              · grind
            rw [Rat.intCast_add, Rat.intCast_mul, Rat.intCast_mul, Rat.intCast_sub, eu']
            rw [er'] at rn ⊢
            grind
    · exfalso
      apply hb
      rw [ei]
      unfold lby
      rw [if_pos rfl]
      rfl
theorem crs_cnd (F : StF ks) {i : Nat} (hi : i < ks.length) (gi : kg ks i = true) (hb : btw y (ky ks i) (ky ks (i + 1))) : cnd ks y (crs ks y i) := by
  obtain ⟨c1, c2, c3⟩ := crs_is F hi gi hb
  have iv := in_val F hi gi c1 c2
  rw [c3] at iv
  obtain ⟨m, hm, em⟩ := own_ix (ks := ks) (i := i) (sp := (kx ks i, ky ks i, kx ks (i + 1), ky ks (i + 1))) hi (by unfold spO; rw [if_pos gi])
  have ff := F.2 i hi gi
  obtain ⟨sl1, hs, e1, e2, e3⟩ := lin_s F hi gi
  refine ⟨iv, Or.inr ⟨m, hm, ?_, ?_, by rw [em]; exact c3⟩⟩
  · rw [em]
    unfold lby
    rw [if_neg (by show ¬ kx ks i = kx ks (i + 1); omega)]
    show ky ks (i + 1) - ky ks i ≠ 0
    unfold btw at hb
    omega
  · unfold cov; rw [em, e1, e2]; grind
def WhI (ks : List Kn) (y : Int) (k : Nat) : Prop := ∀ j, j < k → j < ks.length → ¬ IsV ks (kx ks j : Rat) (some (y : Rat)) ∧ (kg ks j = true → ¬ btw y (ky ks j) (ky ks (j + 1)))
theorem WhI.none (F : StF ks) (w : WhI ks y ks.length) : IsW ks y none := by
  intro q hc
  rcases cnd_cases F hc with ⟨j, hj, ej⟩ | ⟨i, hi, gi, bi, _⟩
  · have := hc.1; rw [ej] at this; exact (w j hj hj).1 this
  · exact (w i hi hi).2 gi bi
theorem WhI.knot (F : StF ks) {k : Nat} (w : WhI ks y k) (hk : k < ks.length) (hv : IsV ks (kx ks k : Rat) (some (y : Rat))) : IsW ks y (some (kx ks k : Rat)) := by
  refine ⟨⟨hv, Or.inl ⟨k, hk, rfl⟩⟩, fun q hc => ?_⟩
  rcases cnd_cases F hc with ⟨j, hj, ej⟩ | ⟨i, hi, gi, bi, ei⟩
  · by_cases c : j < k
    · have := hc.1; rw [ej] at this; exact absurd this (w j c hj).1
    · rw [ej]; exact Rat.intCast_le_intCast.mpr (F.1 k j (by omega) hj)
  · by_cases c : i < k
    · exact absurd bi ((w i c hi).2 gi)
    · have c1 := (crs_is F hi gi bi).1
      have := Rat.intCast_le_intCast.mpr (F.1 k i (by omega) hi)
      rw [ei]; grind
theorem WhI.line (F : StF ks) {k : Nat} (w : WhI ks y k) (hk : k < ks.length) (hv : ¬ IsV ks (kx ks k : Rat) (some (y : Rat))) (gk : kg ks k = true) (bk : btw y (ky ks k) (ky ks (k + 1))) : IsW ks y (some (crs ks y k)) := by
  refine ⟨crs_cnd F hk gk bk, fun q hc => ?_⟩
  obtain ⟨c1, c2, _⟩ := crs_is F hk gk bk
  have ff := F.2 k hk gk
  rcases cnd_cases F hc with ⟨j, hj, ej⟩ | ⟨i, hi, gi, bi, ei⟩
  · by_cases c : j < k
    · have := hc.1; rw [ej] at this; exact absurd this (w j c hj).1
    · by_cases c' : j = k
      · have := hc.1; rw [ej, c'] at this; exact absurd this hv
      · have := Rat.intCast_le_intCast.mpr (F.1 (k + 1) j (by omega) hj)
        rw [ej]; grind
  · by_cases c : i < k
    · exact absurd bi ((w i c hi).2 gi)
    · by_cases c' : i = k
      · rw [ei, c']; grind
      · have d1 := (crs_is F hi gi bi).1
        have := Rat.intCast_le_intCast.mpr (F.1 (k + 1) i (by omega) hi)
        rw [ei]; grind
theorem c_min64 {a b : Int} (ha : B64 a) (hb : B64 b) (h : xH) : fJ9_min_f86c9 (i64 a) (i64 b) h = some (i64 (if a ≤ b then a else b), h) := by
  unfold fJ9_min_f86c9
  split
  · rename_i c
    first
    | (have := (lz_gt ha hb).mp c; rw [if_neg (by omega)])
    | (have := (lz_ge ha hb).mp c
       by_cases e0 : a = b
       · rw [if_pos (by omega), e0]
       · rw [if_neg (by omega)])
    | (have := (lz_lt ha hb).mp c; rw [if_pos (by omega)])
    | (have := (lz_le ha hb).mp c; rw [if_pos (by omega)])
  · rename_i c
    first
    | (have : ¬ b < a := fun z => c ((lz_gt ha hb).mpr z)
       rw [if_pos (by omega)])
    | (have : ¬ b ≤ a := fun z => c ((lz_ge ha hb).mpr z)
       rw [if_pos (by omega)])
    | (have : ¬ a < b := fun z => c ((lz_lt ha hb).mpr z)
       by_cases e0 : a = b
       · rw [if_pos (by omega), e0]
       · rw [if_neg (by omega)])
    | (have : ¬ a ≤ b := fun z => c ((lz_le ha hb).mpr z)
       rw [if_neg (by omega)])
theorem c_btw {a b : Int} (hy : B64 y) (ha : B64 a) (hb : B64 b) (h : xH) : ∃ r : Bool, fX4_isStrictlyBetween (i64 y) (i64 a) (i64 b) h = some (bz r, h) ∧ (r = true ↔ btw y a b) := by
  unfold fX4_isStrictlyBetween btw
  have bm : B64 (if a ≤ b then a else b) := by split; exact ha; exact hb
  have bM : B64 (if a ≤ b then b else a) := by split; exact hb; exact ha
  rw [c_min64 ha hb, bd_some]
  by_cases c1 : y ≤ (if a ≤ b then a else b)
  · rw [if_pos ((lz_le hy bm).mpr c1)]
    refine ⟨false, rfl, ⟨fun z => (by cases z), fun z => ?_⟩⟩
    exfalso; split at c1 <;> omega
  · rw [if_neg (fun z => c1 ((lz_le hy bm).mp z)), c_max64 ha hb, bd_some]
    by_cases c2 : (if a ≤ b then b else a) ≤ y
    · rw [if_pos ((lz_ge hy bM).mpr c2)]
      refine ⟨false, rfl, ⟨fun z => (by cases z), fun z => ?_⟩⟩
      exfalso; split at c2 <;> omega
    · rw [if_neg (fun z => c2 ((lz_ge hy bM).mp z))]
      refine ⟨true, rfl, ⟨fun _ => ?_, fun _ => rfl⟩⟩
      split at c1 <;> split at c2 <;> omega
def WB (v : Option Rat) : Prop := ∀ x, v = some x → Q x.num ∧ Q ((x.den : Int) * 60)
theorem c_fw2 (O : StO ks) (hy : -5940 ≤ y ∧ y ≤ 5940) : ∀ (d k m : Nat) (h : xH), k + d = ks.length → d < m → ShK h s cap ks → kc h 88 = 2 → WhI ks y k → ∃ h' v, fX4_firstWith_l2 m s (i32 y) 88 (i32 (k : Int)) h = some ((), h') ∧ Rt h' 88 v ∧ IsW ks y v ∧ WB v ∧ Fr (AR 88) h h' := by
  obtain ⟨h12, P, F⟩ := O
  have By : B64 y := ⟨by omega, by omega⟩
  have ty : (i32 y).toInt64 = i64 y := i64_of32 ⟨by omega, by omega⟩
  intro d
  induction d with
  | zero =>
    intro k m h hk hm W kr I
    obtain ⟨m, rfl⟩ : ∃ k, m = k + 1 := ⟨m - 1, by omega⟩
    obtain ⟨g1, E1, R1, F1⟩ := c_forget (h := h) (r := 88) kr
    have ek : k = ks.length := by omega
    refine ⟨g1, none, ?_, R1, WhI.none F (by rw [← ek]; exact I), fun x e0 => (by cases e0), F1⟩
    show fX4_firstWith_b2 _ s _ _ _ h = _
    unfold fX4_firstWith_b2
    rw [if_pos W.1.1, W.2.1.1, if_pos (by rw [ek]; exact Int32.le_refl _), if_pos kr, E1, bd_some]
  | succ d ih =>
    intro k m h hk hm W kr I
    obtain ⟨m, rfl⟩ : ∃ k, m = k + 1 := ⟨m - 1, by omega⟩
    have hkl : k < ks.length := by omega
    have bk := P.b hkl
    obtain ⟨g1, v1, E1, R1, V1, B1, F1⟩ := c_valueAt W P F kr (x := kx ks k) (by omega)
    have kr1 : kc g1 88 = 2 := by rw [F1.ekc]; exact kr
    have W1 := W.far F1 kr
    show ∃ h' v, fX4_firstWith_b2 _ s _ _ _ h = _ ∧ _
    unfold fX4_firstWith_b2
    rw [if_pos W.1.1, W.2.1.1, if_neg (nle32 hkl (by omega)), c_xAt W hkl, bd_some, E1, bd_some, if_pos kr1, R1.1]
    have b58 : ¬ IsV ks (kx ks k : Rat) (some (y : Rat)) → ∃ h' v, fX4_firstWith_b58 (fX4_firstWith_l2 m) s (i32 y) 88 (i32 (k : Int)) g1 = some ((), h') ∧ Rt h' 88 v ∧ IsW ks y v ∧ WB v ∧ Fr (AR 88) h h' := by
      intro hn
      have go : (kg ks k = true → ¬ btw y (ky ks k) (ky ks (k + 1))) → ∃ h' v, fX4_firstWith_b127 (fX4_firstWith_l2 m) s (i32 y) 88 (i32 (k : Int)) g1 = some ((), h') ∧ Rt h' 88 v ∧ IsW ks y v ∧ WB v ∧ Fr (AR 88) h h' := by
        intro hb
        unfold fX4_firstWith_b127
        rw [lt_def, one32, i32_add, kp1]
        obtain ⟨g2, v2, E2, R2, V2, B2, F2⟩ := ih (k + 1) m g1 (by omega) (by omega) W1 kr1 (fun j hj hjl => by
          by_cases c : j = k
          · rw [c]; exact ⟨hn, hb⟩
          · exact I j (by omega) hjl)
        exact ⟨g2, v2, E2, R2, V2, B2, F1.tr F2⟩
      unfold fX4_firstWith_b58
      rw [if_pos W1.1.1, c_hasLine W1 F hkl, bd_some]
      cases gk : kg ks k
      · rw [if_pos bz_f]
        exact go (fun z => by rw [gk] at z; cases z)
      · have ff := F.2 k hkl gk
        have b2 := P.b ff.1
        have ek : i32 (k : Int) + 1 = i32 ((k + 1 : Nat) : Int) := by rw [one32, i32_add]; rfl
        obtain ⟨r, Eb, hr⟩ := c_btw By (P.y64 hkl) (P.y64 ff.1) g1
        have v3 : hJ g1 (hR g1 s 3) (i32 (k : Int) + 1).toNatClampNeg = i64 (ky ks (k + 1)) := by rw [ek]; exact (W1.v ff.1).2.1
        rw [if_neg bzt0, if_pos W1.c3, if_pos (W1.x hkl).2.1, if_pos (by rw [ek]; exact (W1.x ff.1).2.1), ty, (W1.v hkl).2.1, v3, Eb, bd_some]
        cases r
        · rw [if_pos bz_f]
          exact go (fun _ z => by have := hr.mpr z; cases this)
        · have hb := hr.mp rfl
          have kb := kr_b P F hkl gk
          have rn : krise ks k ≠ 0 := by
            unfold krise btw at *
            rw [if_pos gk]; omega
          have m1 := mul_bd (a := kx ks k) (b := krise ks k) (A := 5940) (B := 11880) ⟨by omega, by omega⟩ kb.1
          have m2 := mul_bd (a := y - ky ks k) (b := krun ks k) (A := 11880) (B := 11880) ⟨by omega, by omega⟩ ⟨by omega, by omega⟩
          obtain ⟨g3, E3, R3, F3⟩ := c_assign (h := g1) (r := 88) (n := kx ks k * krise ks k + (y - ky ks k) * krun ks k) (d := krise ks k) ⟨by omega, by omega⟩ ⟨by omega, by omega⟩ rn kr1
          refine ⟨g3, some (crs ks y k), ?_, R3, WhI.line F I hkl hn gk hb, ?_, F1.tr F3⟩
          · rw [if_neg bzt0, c_riseOf W1 F hkl, bd_some, if_pos W1.c1, if_pos (W1.x hkl).1, if_pos W1.c3, if_pos (W1.x hkl).2.1, c_runOf W1 F hkl, bd_some, if_pos kr1, (W1.v hkl).1, (W1.v hkl).2.1, i64_sub, i64_mul, i64_mul, i64_add, E3, bd_some]
          · intro x e0
            rw [← Option.some.inj e0]
            have lt := low_terms (a := kx ks k * krise ks k + (y - ky ks k) * krun ks k) (b := krise ks k) rn
            unfold crs
            rw [lt.1, lt.2]
            have t1 := tdiv_b (a := kx ks k * krise ks k + (y - ky ks k) * krun ks k) (M := 1000000000) (((Int.gcd (kx ks k * krise ks k + (y - ky ks k) * krun ks k) (krise ks k) : Nat) : Int) * (if krise ks k < 0 then -1 else 1)) ⟨by omega, by omega⟩
            have t2 := tdiv_b (a := krise ks k) (M := 11880) (((Int.gcd (kx ks k * krise ks k + (y - ky ks k) * krun ks k) (krise ks k) : Nat) : Int) * (if krise ks k < 0 then -1 else 1)) kb.1
            exact ⟨⟨by omega, by omega⟩, ⟨by omega, by omega⟩⟩
    cases v1 with
    | none =>
      rw [if_pos (by rfl)]
      exact b58 (fun z => by cases IsV_one V1 z)
    | some a =>
      have e1 := R1.2 a rfl
      have ba := B1 a rfl
      have da := a.den_nz
      rw [if_neg (show ¬ bz (some a).isSome = 0 from bzt0), e1.1, e1.2, o64, ty]
      by_cases c : a = (y : Rat)
      · have d1 : (a.den : Int) = 1 := by rw [c]; rfl
        have n1 : a.num = y := by rw [c]; rfl
        rw [if_pos ((lz_eq ⟨by omega, by omega⟩ ⟨by decide, by decide⟩).mpr d1), if_pos ((lz_eq ⟨by omega, by omega⟩ By).mpr n1), if_pos W1.c1, if_pos (W1.x hkl).1, (W1.v hkl).1]
        obtain ⟨g3, E3, R3, F3⟩ := c_assign (h := g1) (r := 88) (n := kx ks k) (d := 1) ⟨by omega, by omega⟩ ⟨by decide, by decide⟩ (by decide) kr1
        rw [rat_1] at R3
        rw [c] at V1
        refine ⟨g3, some (kx ks k : Rat), by rw [E3, bd_some], R3, WhI.knot F I hkl V1, ?_, F1.tr F3⟩
        intro x e0
        rw [← Option.some.inj e0]
        exact ⟨⟨by show -4611686018427387904 ≤ kx ks k; omega, by show kx ks k ≤ 4611686018427387904; omega⟩, ⟨by show -4611686018427387904 ≤ ((1 : Nat) : Int) * 60; decide, by show ((1 : Nat) : Int) * 60 ≤ 4611686018427387904; decide⟩⟩
      · have hn : ¬ IsV ks (kx ks k : Rat) (some (y : Rat)) := fun z => c (Option.some.inj (IsV_one V1 z))
        by_cases d1 : (a.den : Int) = 1
        · have n1 : a.num ≠ y := fun z => c (by rw [← z]; exact (den_one (by omega)).symm)
          rw [if_pos ((lz_eq ⟨by omega, by omega⟩ ⟨by decide, by decide⟩).mpr d1), if_neg (fun z => n1 ((lz_eq ⟨by omega, by omega⟩ By).mp z))]
          exact b58 hn
        · rw [if_neg (fun z => d1 ((lz_eq ⟨by omega, by omega⟩ ⟨by decide, by decide⟩).mp z))]
          exact b58 hn
end WH
