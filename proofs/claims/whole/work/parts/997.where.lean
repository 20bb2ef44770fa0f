/-! BOTH SIDES ASKED: where. What is meant -/
def cnd (ks : List Kn) (y : Int) (p : Rat) : Prop := IsV ks p (some (y : Rat)) ∧ ((∃ j, j < ks.length ∧ p = (kx ks j : Rat)) ∨ ∃ m, m < (spL ks).length ∧ lnB (ownL ks m) ≠ 0 ∧ cov (ownL ks) p m ∧ vl (ownL ks m) p = (y : Rat))
def IsW (ks : List Kn) (y : Int) (v : Option Rat) : Prop := match v with
  | none => ∀ p, ¬ cnd ks y p
  | some p => cnd ks y p ∧ ∀ p', cnd ks y p' → p ≤ p'
theorem IsW_one {ks : List Kn} {y : Int} {v w : Option Rat} (h : IsW ks y v) (h2 : IsW ks y w) : v = w := by
  cases v with
  | none =>
    cases w with
    | none => rfl
    | some p => exact absurd h2.1 (h p)
  | some p =>
    cases w with
    | none => exact absurd h.1 (h2 p)
    | some r =>
      have a1 := h.2 r h2.1
      have a2 := h2.2 p h.1
      congr 1
      grind
section WH
variable {ks : List Kn} {y : Int} {p : Rat}
theorem span_g {ks : List Kn} (F : StF ks) {m : Nat} (hm : m < (spL ks).length) : (∃ i, i < ks.length ∧ kg ks i = true ∧ ownL ks m = lby (kx ks i, ky ks i, kx ks (i + 1), ky ks (i + 1))) ∨ (∃ i, i < ks.length ∧ ownL ks m = lby (kx ks i, ky ks i, kx ks i, ky ks i)) := by
  obtain ⟨i, sp, hi, e0, eo⟩ := own_of hm
  unfold spO at e0
  split at e0
  · rename_i gk
    exact Or.inl ⟨i, hi, gk, by rw [eo, ← Option.some.inj e0]⟩
  · split at e0
    · exact Or.inr ⟨i, hi, by rw [eo, ← Option.some.inj e0]⟩
    · cases e0
/-- slope, ends, values of a line of a store -/
theorem lin_s (F : StF ks) {i : Nat} (hi : i < ks.length) (gk : kg ks i = true) : ∃ s : Rat, (ky ks (i + 1) : Rat) = (ky ks i : Rat) + s * ((kx ks (i + 1) : Rat) - (kx ks i : Rat)) ∧ lnF (lby (kx ks i, ky ks i, kx ks (i + 1), ky ks (i + 1))) = kx ks i ∧ lnT (lby (kx ks i, ky ks i, kx ks (i + 1), ky ks (i + 1))) = kx ks (i + 1) ∧ ∀ x, vl (lby (kx ks i, ky ks i, kx ks (i + 1), ky ks (i + 1))) x = (ky ks i : Rat) + s * (x - (kx ks i : Rat)) := by
  have ff := F.2 i hi gk
  have h' := lt_cast ff.2
  have hd : (kx ks (i + 1) : Rat) - (kx ks i : Rat) ≠ 0 := by grind
  have hs : (ky ks (i + 1) : Rat) = (ky ks i : Rat) + (((ky ks (i + 1) : Rat) - (ky ks i : Rat)) / ((kx ks (i + 1) : Rat) - (kx ks i : Rat))) * ((kx ks (i + 1) : Rat) - (kx ks i : Rat)) := by grind
  obtain ⟨f1, f2, f3, f4⟩ := lby_g ff.2 hs
  exact ⟨_, hs, f1, f2, f4⟩
/-- inside a line nothing else lies -/
theorem in_one (F : StF ks) {i : Nat} (hi : i < ks.length) (gk : kg ks i = true) (c1 : (kx ks i : Rat) < p) (c2 : p < (kx ks (i + 1) : Rat)) {m : Nat} (hm : m < (spL ks).length) (hc : cov (ownL ks) p m) : ownL ks m = lby (kx ks i, ky ks i, kx ks (i + 1), ky ks (i + 1)) := by
  have ff := F.2 i hi gk
  unfold cov at hc
  rcases span_g F hm with ⟨j, hj, gj, ej⟩ | ⟨j, hj, ej⟩
  · obtain ⟨s, hs, e1, e2, e3⟩ := lin_s F hj gj
    have fj := F.2 j hj gj
    rw [ej, e1, e2] at hc
    have eij : j = i := by
      apply Classical.byContradiction
      intro hne
      rcases Nat.lt_or_gt_of_ne hne with q | q
      · have := Rat.intCast_le_intCast.mpr (F.1 (j + 1) i (by omega) hi); grind
      · have := Rat.intCast_le_intCast.mpr (F.1 (i + 1) j (by omega) hj); grind
    rw [ej, eij]
  · exfalso
    rw [ej, lby_l.1, lby_l.2.1] at hc
    by_cases q : j ≤ i
    · have := Rat.intCast_le_intCast.mpr (F.1 j i q hi); grind
    · have := Rat.intCast_le_intCast.mpr (F.1 (i + 1) j (by omega) hj); grind
theorem in_val (F : StF ks) {i : Nat} (hi : i < ks.length) (gk : kg ks i = true) (c1 : (kx ks i : Rat) < p) (c2 : p < (kx ks (i + 1) : Rat)) : IsV ks p (some (vl (lby (kx ks i, ky ks i, kx ks (i + 1), ky ks (i + 1))) p)) := by
  obtain ⟨m, hm, em⟩ := own_ix (ks := ks) (i := i) (sp := (kx ks i, ky ks i, kx ks (i + 1), ky ks (i + 1))) hi (by unfold spO; rw [if_pos gk])
  obtain ⟨s, hs, e1, e2, e3⟩ := lin_s F hi gk
  refine ⟨⟨m, hm, ?_, by rw [em]⟩, fun m' hm' hc' => ?_⟩
  · unfold cov; rw [em, e1, e2]; grind
  · rw [in_one F hi gk c1 c2 hm' hc']; grind
def btw (y a b : Int) : Prop := (a < y ∧ y < b) ∨ (b < y ∧ y < a)
def crs (ks : List Kn) (y : Int) (i : Nat) : Rat := ((kx ks i * krise ks i + (y - ky ks i) * krun ks i : Int) : Rat) / ((krise ks i : Int) : Rat)
theorem crs_is (F : StF ks) {i : Nat} (hi : i < ks.length) (gk : kg ks i = true) (hb : btw y (ky ks i) (ky ks (i + 1))) : (kx ks i : Rat) < crs ks y i ∧ crs ks y i < (kx ks (i + 1) : Rat) ∧ vl (lby (kx ks i, ky ks i, kx ks (i + 1), ky ks (i + 1))) (crs ks y i) = (y : Rat) := by
  have ff := F.2 i hi gk
  have h' := lt_cast ff.2
  obtain ⟨s, hs, e1, e2, e3⟩ := lin_s F hi gk
  have er : krise ks i = ky ks (i + 1) - ky ks i := by unfold krise; rw [if_pos gk]
  have eu : krun ks i = kx ks (i + 1) - kx ks i := by unfold krun; rw [if_pos gk]
  have rn : (krise ks i : Rat) ≠ 0 := by
    intro z
    have z : krise ks i = 0 := by exact_mod_cast z
    unfold btw at hb
    omega
  have er' : (krise ks i : Rat) = (ky ks (i + 1) : Rat) - (ky ks i : Rat) := by rw [er, Rat.intCast_sub]
  have eu' : (krun ks i : Rat) = (kx ks (i + 1) : Rat) - (kx ks i : Rat) := by rw [eu, Rat.intCast_sub]
  have ec : crs ks y i = (kx ks i : Rat) + ((y : Rat) - (ky ks i : Rat)) * ((kx ks (i + 1) : Rat) - (kx ks i : Rat)) / (krise ks i : Rat) := by
    unfold crs
    rw [Rat.intCast_add, Rat.intCast_mul, Rat.intCast_mul, Rat.intCast_sub, eu']
    grind
  have sn : s ≠ 0 := by
    intro z
    rw [z] at hs
    apply rn
    rw [er']; grind
  have sv : (y : Rat) = (ky ks i : Rat) + s * (crs ks y i - (kx ks i : Rat)) := by
    rw [ec]
    have : (krise ks i : Rat) = s * ((kx ks (i + 1) : Rat) - (kx ks i : Rat)) := by rw [er', hs]; grind
    grind
  refine ⟨?_, ?_, by rw [e3]; exact sv.symm⟩
  · rcases hb with ⟨b1, b2⟩ | ⟨b1, b2⟩
    · have b1' := lt_cast b1
      have b2' := lt_cast b2
      have sp : 0 < s := by
        apply Classical.byContradiction
        intro z
        have : s * ((kx ks (i + 1) : Rat) - (kx ks i : Rat)) ≤ 0 := by
          have := Rat.mul_nonneg (a := -s) (b := (kx ks (i + 1) : Rat) - (kx ks i : Rat)) (by grind) (by grind)
          grind
        grind
      apply Classical.byContradiction
      intro z
      have : s * (crs ks y i - (kx ks i : Rat)) ≤ 0 := by
        have := Rat.mul_le_mul_of_nonneg_left (a := crs ks y i - (kx ks i : Rat)) (b := 0) (c := s) (by grind) (by grind)
        grind
      grind
    · have b1' := lt_cast b1
      have b2' := lt_cast b2
      have sp : s < 0 := by
        apply Classical.byContradiction
        intro z
        have : 0 ≤ s * ((kx ks (i + 1) : Rat) - (kx ks i : Rat)) := Rat.mul_nonneg (by grind) (by grind)
        grind
      apply Classical.byContradiction
      intro z
      have : 0 ≤ (-s) * ((kx ks i : Rat) - crs ks y i) := Rat.mul_nonneg (by grind) (by grind)
      grind
  · rcases hb with ⟨b1, b2⟩ | ⟨b1, b2⟩
    · have b1' := lt_cast b1
      have b2' := lt_cast b2
      have sp : 0 < s := by
        apply Classical.byContradiction
        intro z
        have : 0 ≤ (-s) * ((kx ks (i + 1) : Rat) - (kx ks i : Rat)) := Rat.mul_nonneg (by grind) (by grind)
        grind
      apply Classical.byContradiction
      intro z
      have : 0 ≤ s * (crs ks y i - (kx ks (i + 1) : Rat)) := Rat.mul_nonneg (by grind) (by grind)
      grind
    · have b1' := lt_cast b1
      have b2' := lt_cast b2
      have sp : s < 0 := by
        apply Classical.byContradiction
        intro z
        have : 0 ≤ s * ((kx ks (i + 1) : Rat) - (kx ks i : Rat)) := Rat.mul_nonneg (by grind) (by grind)
        grind
      apply Classical.byContradiction
      intro z
      have : 0 ≤ (-s) * (crs ks y i - (kx ks (i + 1) : Rat)) := Rat.mul_nonneg (by grind) (by grind)
      grind
end WH
