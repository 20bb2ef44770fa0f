/-! VALUES: what a store is worth at x -/
def IsV (ks : List Kn) (x : Rat) (v : Option Rat) : Prop := match v with
  | none => ∀ m, m < (spL ks).length → ¬ cov (ownL ks) x m
  | some y => (∃ m, m < (spL ks).length ∧ cov (ownL ks) x m ∧ y = vl (ownL ks m) x) ∧ ∀ m, m < (spL ks).length → cov (ownL ks) x m → y ≤ vl (ownL ks m) x
theorem IsV_one {ks : List Kn} {x : Rat} {v w : Option Rat} (h : IsV ks x v) (h2 : IsV ks x w) : v = w := by
  cases v with
  | none =>
    cases w with
    | none => rfl
    | some y => obtain ⟨⟨m, hm, hc, _⟩, _⟩ := h2; exact absurd hc (h m hm)
  | some y =>
    obtain ⟨⟨m, hm, hc, e⟩, hl⟩ := h
    cases w with
    | none => exact absurd hc (h2 m hm)
    | some z =>
      obtain ⟨⟨m', hm', hc', e'⟩, hl'⟩ := h2
      have a := hl m' hm' hc'
      have b := hl' m hm hc
      congr 1
      grind
/-- what goes over a cut of a store -/
def IsC (ks : List Kn) (sd : Bool) (x : Rat) (v : Option Rat) : Prop := match v with
  | none => ∀ m, m < (spL ks).length → ¬ lv (ownL ks) sd x m
  | some y => ∃ m, m < (spL ks).length ∧ lv (ownL ks) sd x m ∧ y = vl (ownL ks m) x
/-- the value on the line from knot k, at x -/
def kal (ks : List Kn) (k : Nat) (x : Int) : Rat := ((ky ks k * krun ks k + krise ks k * (x - kx ks k) : Int) : Rat) / ((krun ks k : Int) : Rat)
theorem lby_al {x1 y1 x2 y2 x : Int} (h : x1 < x2) : vl (lby (x1, y1, x2, y2)) (x : Rat) = ((y1 * (x2 - x1) + (y2 - y1) * (x - x1) : Int) : Rat) / ((x2 - x1 : Int) : Rat) := by
  have h' := lt_cast h
  have hd : (x2 : Rat) - (x1 : Rat) ≠ 0 := by grind
  have hs : (y2 : Rat) = (y1 : Rat) + (((y2 : Rat) - (y1 : Rat)) / ((x2 : Rat) - (x1 : Rat))) * ((x2 : Rat) - (x1 : Rat)) := by grind
  rw [(lby_g h hs).2.2.2 (x : Rat), Rat.intCast_add, Rat.intCast_mul, Rat.intCast_mul, Rat.intCast_sub, Rat.intCast_sub, Rat.intCast_sub]
  grind
section VA
variable {ks : List Kn}
/-- the lines of a store over a cut, and at x -/
theorem ln_cut (F : StF ks) {sd : Bool} {x : Rat} {m : Nat} (hm : m < (spL ks).length) (hv : lv (ownL ks) sd x m) : ∃ i, i < ks.length ∧ kg ks i = true ∧ cvr ks sd x i ∧ ownL ks m = lby (kx ks i, ky ks i, kx ks (i + 1), ky ks (i + 1)) := by
  obtain ⟨i, sp, hi, e, eo⟩ := own_of hm
  unfold lv at hv
  rw [eo] at hv
  unfold spO at e
  split at e
  · rename_i g
    have f := F.2 i hi g
    refine ⟨i, hi, g, ?_, by rw [eo, ← Option.some.inj e]⟩
    rw [← Option.some.inj e] at hv
    have e1 : lnF (lby (kx ks i, ky ks i, kx ks (i + 1), ky ks (i + 1))) = kx ks i ∧ lnT (lby (kx ks i, ky ks i, kx ks (i + 1), ky ks (i + 1))) = kx ks (i + 1) := by
      unfold lby; rw [if_neg (by show ¬ kx ks i = kx ks (i + 1); omega)]; exact ⟨rfl, rfl⟩
    rw [e1.1, e1.2] at hv
    exact hv
  · exfalso
    split at e
    · rw [← Option.some.inj e, lby_l.1, lby_l.2.1] at hv
      exact hv.2 hv.1
    · cases e
theorem cut_ln (F : StF ks) {sd : Bool} {x : Rat} {i : Nat} (hi : i < ks.length) (g : kg ks i = true) (cv : cvr ks sd x i) : ∃ m, m < (spL ks).length ∧ lv (ownL ks) sd x m ∧ ownL ks m = lby (kx ks i, ky ks i, kx ks (i + 1), ky ks (i + 1)) := by
  obtain ⟨m, hm, em⟩ := own_ix (ks := ks) (i := i) (sp := (kx ks i, ky ks i, kx ks (i + 1), ky ks (i + 1))) hi (by unfold spO; rw [if_pos g])
  refine ⟨m, hm, ?_, em⟩
  have f := F.2 i hi g
  have e1 : lnF (lby (kx ks i, ky ks i, kx ks (i + 1), ky ks (i + 1))) = kx ks i ∧ lnT (lby (kx ks i, ky ks i, kx ks (i + 1), ky ks (i + 1))) = kx ks (i + 1) := by
    unfold lby; rw [if_neg (by show ¬ kx ks i = kx ks (i + 1); omega)]; exact ⟨rfl, rfl⟩
  unfold lv
  rw [em, e1.1, e1.2]
  exact cv
theorem kal_g {k : Nat} {x : Int} (F : StF ks) (hk : k < ks.length) (g : kg ks k = true) : vl (lby (kx ks k, ky ks k, kx ks (k + 1), ky ks (k + 1))) (x : Rat) = kal ks k x := by
  rw [lby_al (F.2 k hk g).2]
  unfold kal krun krise
  rw [if_pos g, if_pos g]
theorem cvT {k : Nat} {x : Int} : cvr ks true (x : Rat) k ↔ kx ks k < x ∧ x ≤ kx ks (k + 1) := by
  unfold cvr bey
  simp [Rat.intCast_lt_intCast]
theorem cvF {k : Nat} {x : Int} : cvr ks false (x : Rat) k ↔ kx ks k ≤ x ∧ x < kx ks (k + 1) := by
  unfold cvr bey
  simp [Rat.intCast_le_intCast]
theorem cv_one (F : StF ks) {sd : Bool} {x : Int} {i j : Nat} (hi : i < ks.length) (hj : j < ks.length) (gi : kg ks i = true) (gj : kg ks j = true) (ci : cvr ks sd (x : Rat) i) (cj : cvr ks sd (x : Rat) j) : i = j := by
  have fi := F.2 i hi gi
  have fj := F.2 j hj gj
  apply Classical.byContradiction
  intro hne
  rcases Nat.lt_or_gt_of_ne hne with c | c
  · have m := F.1 (i + 1) j (by omega) hj
    cases sd
    · rw [cvF] at ci cj; omega
    · rw [cvT] at ci cj; omega
  · have m := F.1 (j + 1) i (by omega) hi
    cases sd
    · rw [cvF] at ci cj; omega
    · rw [cvT] at ci cj; omega
theorem IsC_one (F : StF ks) {sd : Bool} {x : Int} {v w : Option Rat} (h : IsC ks sd (x : Rat) v) (h2 : IsC ks sd (x : Rat) w) : v = w := by
  cases v with
  | none =>
    cases w with
    | none => rfl
    | some y => obtain ⟨m, hm, hc, _⟩ := h2; exact absurd hc (h m hm)
  | some y =>
    obtain ⟨m, hm, hc, e⟩ := h
    cases w with
    | none => exact absurd hc (h2 m hm)
    | some z =>
      obtain ⟨m', hm', hc', e'⟩ := h2
      obtain ⟨i, hi, gi, ci, ei⟩ := ln_cut F hm hc
      obtain ⟨j, hj, gj, cj, ej⟩ := ln_cut F hm' hc'
      have := cv_one F hi hj gi gj ci cj
      subst this
      rw [e, e', ei, ej]
theorem IsC_k (F : StF ks) {sd : Bool} {x : Int} {k : Nat} (hk : k < ks.length) (g : kg ks k = true) (c : cvr ks sd (x : Rat) k) : IsC ks sd (x : Rat) (some (kal ks k x)) := by
  obtain ⟨m, hm, hv, em⟩ := cut_ln F hk g c
  exact ⟨m, hm, hv, by rw [em, kal_g F hk g]⟩
theorem IsC_no (F : StF ks) {sd : Bool} {x : Int} (h : ∀ k, k < ks.length → kg ks k = true → ¬ cvr ks sd (x : Rat) k) : IsC ks sd (x : Rat) none := by
  intro m hm hv
  obtain ⟨i, hi, gi, ci, _⟩ := ln_cut F hm hv
  exact h i hi gi ci
/-- lines at x -/
theorem ln_cov (F : StF ks) {x : Int} {m : Nat} (hm : m < (spL ks).length) (hv : cov (ownL ks) (x : Rat) m) : ∃ i, i < ks.length ∧ ((kx ks i = x ∧ vl (ownL ks m) (x : Rat) = (ky ks i : Rat)) ∨ (kg ks i = true ∧ kx ks i < x ∧ x < kx ks (i + 1) ∧ vl (ownL ks m) (x : Rat) = kal ks i x)) := by
  obtain ⟨i, sp, hi, e, eo⟩ := own_of hm
  unfold cov at hv
  rw [eo] at hv ⊢
  unfold spO at e
  split at e
  · rename_i g
    have f := F.2 i hi g
    have e1 : lnF (lby (kx ks i, ky ks i, kx ks (i + 1), ky ks (i + 1))) = kx ks i ∧ lnT (lby (kx ks i, ky ks i, kx ks (i + 1), ky ks (i + 1))) = kx ks (i + 1) := by
      unfold lby; rw [if_neg (by show ¬ kx ks i = kx ks (i + 1); omega)]; exact ⟨rfl, rfl⟩
    rw [← Option.some.inj e] at hv ⊢
    rw [e1.1, e1.2, Rat.intCast_le_intCast, Rat.intCast_le_intCast] at hv
    have h' := lt_cast f.2
    have hd : (kx ks (i + 1) : Rat) - (kx ks i : Rat) ≠ 0 := by grind
    have hs : (ky ks (i + 1) : Rat) = (ky ks i : Rat) + (((ky ks (i + 1) : Rat) - (ky ks i : Rat)) / ((kx ks (i + 1) : Rat) - (kx ks i : Rat))) * ((kx ks (i + 1) : Rat) - (kx ks i : Rat)) := by grind
    have vv := (lby_g f.2 hs).2.2.2
    by_cases c1 : kx ks i = x
    · refine ⟨i, hi, Or.inl ⟨c1, ?_⟩⟩
      rw [← c1, vv]; grind
    · by_cases c2 : kx ks (i + 1) = x
      · refine ⟨i + 1, f.1, Or.inl ⟨c2, ?_⟩⟩
        rw [← c2, vv]; grind
      · exact ⟨i, hi, Or.inr ⟨g, by omega, by omega, kal_g F hi g⟩⟩
  · split at e
    · rw [← Option.some.inj e] at hv ⊢
      rw [lby_l.1, lby_l.2.1, Rat.intCast_le_intCast, Rat.intCast_le_intCast] at hv
      exact ⟨i, hi, Or.inl ⟨by omega, lby_l.2.2 _⟩⟩
    · cases e
/-- each knot lies on a line of its own -/
theorem kn_cov (F : StF ks) {i : Nat} (hi : i < ks.length) : ∃ m, m < (spL ks).length ∧ cov (ownL ks) (kx ks i : Rat) m ∧ vl (ownL ks m) (kx ks i : Rat) = (ky ks i : Rat) := by
  have line : ∀ j, j < ks.length → kg ks j = true → (i = j ∨ i = j + 1) → ∃ m, m < (spL ks).length ∧ cov (ownL ks) (kx ks i : Rat) m ∧ vl (ownL ks m) (kx ks i : Rat) = (ky ks i : Rat) := by
    intro j hj g hij
    have f := F.2 j hj g
    obtain ⟨m, hm, em⟩ := own_ix (ks := ks) (i := j) (sp := (kx ks j, ky ks j, kx ks (j + 1), ky ks (j + 1))) hj (by unfold spO; rw [if_pos g])
    have h' := lt_cast f.2
    have hd : (kx ks (j + 1) : Rat) - (kx ks j : Rat) ≠ 0 := by grind
    have hs : (ky ks (j + 1) : Rat) = (ky ks j : Rat) + (((ky ks (j + 1) : Rat) - (ky ks j : Rat)) / ((kx ks (j + 1) : Rat) - (kx ks j : Rat))) * ((kx ks (j + 1) : Rat) - (kx ks j : Rat)) := by grind
    obtain ⟨f1, f2, f3, f4⟩ := lby_g f.2 hs
    refine ⟨m, hm, ?_, ?_⟩
    · unfold cov
      rw [em, f1, f2]
      rcases hij with e | e <;> rw [e] <;> grind
    · rw [em, f4]
      rcases hij with e | e <;> rw [e] <;> grind
  cases g : kg ks i
  · by_cases g2 : i = 0 ∨ kg ks (i - 1) = false
    · obtain ⟨m, hm, em⟩ := own_ix (ks := ks) (i := i) (sp := (kx ks i, ky ks i, kx ks i, ky ks i)) hi (by unfold spO; rw [if_neg (by rw [g]; decide), if_pos g2])
      refine ⟨m, hm, ?_, by rw [em, lby_l.2.2]⟩
      unfold cov
      rw [em, lby_l.1, lby_l.2.1]
      grind
    · have h0 : i ≠ 0 := fun z => g2 (Or.inl z)
      have g3 : kg ks (i - 1) = true := by cases hh : kg ks (i - 1) <;> simp_all
      exact line (i - 1) (by omega) g3 (by omega)
  · exact line i hi g (Or.inl rfl)
/-- the least of the knots at x, if no line goes over x -/
theorem IsV_kn (F : StF ks) {x : Int} {l : Nat} (hl : l < ks.length) (ex : kx ks l = x) (hm : ∀ j, j < ks.length → kx ks j = x → ky ks l ≤ ky ks j) : IsV ks (x : Rat) (some (ky ks l : Rat)) := by
  refine ⟨?_, fun m hm2 hc => ?_⟩
  · obtain ⟨m, h1, h2, h3⟩ := kn_cov F hl
    rw [ex] at h2 h3
    exact ⟨m, h1, h2, h3.symm⟩
  · obtain ⟨i, hi, c | ⟨g, c1, c2, _⟩⟩ := ln_cov F hm2 hc
    · rw [c.2]; exact Rat.intCast_le_intCast.mpr (hm i hi c.1)
    · exfalso
      have f := F.2 i hi g
      by_cases q : l ≤ i
      · have := F.1 l i q hi; omega
      · have := F.1 (i + 1) l (by omega) hl; omega
theorem IsV_ln (F : StF ks) {x : Int} {k : Nat} (hk : k < ks.length) (g : kg ks k = true) (c1 : kx ks k < x) (c2 : x < kx ks (k + 1)) : IsV ks (x : Rat) (some (kal ks k x)) := by
  have cv : cvr ks true (x : Rat) k := cvT.mpr ⟨c1, by omega⟩
  have f := F.2 k hk g
  refine ⟨?_, fun m hm hc => ?_⟩
  · obtain ⟨m, hm, hv, em⟩ := cut_ln F hk g cv
    refine ⟨m, hm, ?_, by rw [em, kal_g F hk g]⟩
    have := lvt.mp hv
    unfold cov
    grind
  · obtain ⟨i, hi, c | ⟨gi, d1, d2, e⟩⟩ := ln_cov F hm hc
    · exfalso
      by_cases q : i ≤ k
      · have := F.1 i k q hk; omega
      · have := F.1 (k + 1) i (by omega) hi; omega
    · have := cv_one F hk hi g gi cv (cvT.mpr ⟨d1, by omega⟩)
      subst this
      rw [e]; grind
theorem IsV_no (F : StF ks) {x : Int} (h1 : ∀ j, j < ks.length → kx ks j ≠ x) (h2 : ∀ j, j < ks.length → kg ks j = true → ¬ (kx ks j < x ∧ x < kx ks (j + 1))) : IsV ks (x : Rat) none := by
  intro m hm hc
  obtain ⟨i, hi, c | ⟨gi, d1, d2, e⟩⟩ := ln_cov F hm hc
  · exact h1 i hi c.1
  · exact h2 i hi gi ⟨d1, d2⟩
end VA
