/-! ownL lines -/
def ownL (ks : List Kn) : Nat → Ln := lnn ((spL ks).map lby)
theorem own_of {ks : List Kn} {m : Nat} (hm : m < (spL ks).length) : ∃ i sp, i < ks.length ∧ spO ks i = some sp ∧ ownL ks m = lby sp := by
  have h1 : (spL ks)[m]? = some (spL ks)[m] := List.getElem?_eq_getElem hm
  have hmem : (spL ks)[m] ∈ spL ks := List.getElem_mem _
  have h2 : (spL ks)[m] ∈ (List.range ks.length).filterMap (spO ks) := hmem
  obtain ⟨i, hi, e⟩ := List.mem_filterMap.mp h2
  refine ⟨i, _, List.mem_range.mp hi, e, ?_⟩
  unfold ownL lnn
  rw [List.getElem?_map, h1]; rfl
theorem own_ix {ks : List Kn} {i : Nat} {sp : Spn} (hi : i < ks.length) (e : spO ks i = some sp) : ∃ m, m < (spL ks).length ∧ ownL ks m = lby sp := by
  have h1 : sp ∈ spL ks := List.mem_filterMap.mpr ⟨i, List.mem_range.mpr hi, e⟩
  obtain ⟨m, hm, em⟩ := List.mem_iff_getElem.mp h1
  refine ⟨m, hm, ?_⟩
  unfold ownL lnn
  rw [List.getElem?_map, List.getElem?_eq_getElem hm, em]; rfl
theorem lby_g {x1 y1 x2 y2 : Int} (h : x1 < x2) {s : Rat} (hs : (y2 : Rat) = (y1 : Rat) + s * ((x2 : Rat) - (x1 : Rat))) : lnF (lby (x1, y1, x2, y2)) = x1 ∧ lnT (lby (x1, y1, x2, y2)) = x2 ∧ sl (lby (x1, y1, x2, y2)) = s ∧ ∀ x, vl (lby (x1, y1, x2, y2)) x = (y1 : Rat) + s * (x - (x1 : Rat)) := by
  have e : lby (x1, y1, x2, y2) = (x1, x2, y1 * (x2 - x1) - (y2 - y1) * x1, y2 - y1, x2 - x1) := by
    unfold lby
    rw [if_neg (by show ¬ x1 = x2; omega)]
  have h' := lt_cast h
  have hd : (x2 : Rat) - (x1 : Rat) ≠ 0 := by grind
  have es : sl (lby (x1, y1, x2, y2)) = s := by
    rw [e]
    show ((y2 - y1 : Int) : Rat) / ((x2 - x1 : Int) : Rat) = s
    rw [Rat.intCast_sub, Rat.intCast_sub]
    grind
  have ei : ic (lby (x1, y1, x2, y2)) = (y1 : Rat) - s * (x1 : Rat) := by
    rw [e]
    show ((y1 * (x2 - x1) - (y2 - y1) * x1 : Int) : Rat) / ((x2 - x1 : Int) : Rat) = _
    rw [Rat.intCast_sub, Rat.intCast_mul, Rat.intCast_mul, Rat.intCast_sub, Rat.intCast_sub]
    grind
  refine ⟨by rw [e]; rfl, by rw [e]; rfl, es, fun x => ?_⟩
  unfold vl
  rw [es, ei]
  grind
theorem lby_l {x1 y1 : Int} : lnF (lby (x1, y1, x1, y1)) = x1 ∧ lnT (lby (x1, y1, x1, y1)) = x1 ∧ ∀ x, vl (lby (x1, y1, x1, y1)) x = (y1 : Rat) := by
  have e : lby (x1, y1, x1, y1) = (x1, x1, y1, 0, 1) := by unfold lby; rw [if_pos rfl]
  rw [e]
  refine ⟨rfl, rfl, fun x => ?_⟩
  show ((y1 : Int) : Rat) / ((1 : Int) : Rat) + ((0 : Int) : Rat) / ((1 : Int) : Rat) * x = _
  have h1 : ((1 : Int) : Rat) = 1 := rfl
  have h0 : ((0 : Int) : Rat) = 0 := rfl
  rw [h1, h0]
  grind
section OW
variable {L : Nat → Ln} {n : Nat} {ks : List Kn}
/-- a line of its ownL over a cut is what is lowest there -/
theorem own_L (h : PaperIs L n ks) (P : StP ks) {sd : Bool} {x : Rat} {m : Nat} (hm : m < (spL ks).length) (hv : lv (ownL ks) sd x m) : Sd L n sd x (some (vl (ownL ks m) x, sl (ownL ks m))) := by
  obtain ⟨i, sp, hi, e, eo⟩ := own_of hm
  unfold lv at hv
  rw [eo] at hv ⊢
  unfold spO at e
  split at e
  · rename_i g
    obtain ⟨i1, hx, s, hS, hy⟩ := po_next h P hi g
    rw [← Option.some.inj e] at hv ⊢
    obtain ⟨f1, f2, f3, f4⟩ := lby_g hx hy
    rw [f1, f2] at hv
    rw [f3, f4]
    exact hS sd x hv
  · exfalso
    split at e
    · rw [← Option.some.inj e] at hv
      rw [lby_l.1, lby_l.2.1] at hv
      exact hv.2 hv.1
    · cases e
theorem own_Sd (h : PaperIs L n ks) (P : StP ks) {sd : Bool} {x : Rat} {a : Option (Rat × Rat)} (hs : Sd L n sd x a) : Sd (ownL ks) (spL ks).length sd x a := by
  cases a with
  | none =>
    intro o ho
    have := own_L h P ho.1 ho.2.1
    cases Sd_one hs this
  | some u =>
    obtain ⟨i, hi, g, cv⟩ := po_cov h P hs
    obtain ⟨i1, hx, s, hS, hy⟩ := po_next h P hi g
    obtain ⟨m, hm, em⟩ := own_ix (ks := ks) (i := i) (sp := (kx ks i, ky ks i, kx ks (i + 1), ky ks (i + 1))) hi (by unfold spO; rw [if_pos g])
    have hv : lv (ownL ks) sd x m := by
      obtain ⟨f1, f2, f3, f4⟩ := lby_g hx hy
      unfold lv
      rw [em, f1, f2]
      exact cv
    obtain ⟨o, ho⟩ := Low_ex hm hv
    have := own_L h P ho.1 ho.2.1
    rw [Sd_one hs this]
    exact ⟨o, ho, rfl⟩
theorem own_lone (h : PaperIs L n ks) (P : StP ks) {x : Rat} {m : Nat} (hm : m < (spL ks).length) (hv : isLone (ownL ks) x m) : ∃ i, i < ks.length ∧ kg ks i = false ∧ (i = 0 ∨ kg ks (i - 1) = false) ∧ (kx ks i : Rat) = x ∧ vl (ownL ks m) x = (ky ks i : Rat) := by
  obtain ⟨i, sp, hi, e, eo⟩ := own_of hm
  unfold isLone at hv
  rw [eo] at hv ⊢
  unfold spO at e
  split at e
  · rename_i g
    obtain ⟨i1, hx, s, hS, hy⟩ := po_next h P hi g
    rw [← Option.some.inj e] at hv
    obtain ⟨f1, f2, f3, f4⟩ := lby_g hx hy
    rw [f1, f2] at hv
    have := lt_cast hx
    grind
  · rename_i g
    split at e
    · rename_i g2
      rw [← Option.some.inj e] at hv ⊢
      rw [lby_l.1] at hv
      exact ⟨i, hi, by cases hh : kg ks i <;> simp_all, g2, hv.1, lby_l.2.2 x⟩
    · cases e
theorem own_Sp (h : PaperIs L n ks) (P : StP ks) {x : Rat} {a b : Option (Rat × Rat)} {c : Option Rat} (ha : Sd L n true x a) (hb : Sd L n false x b) (hc : Sp L n x c) : Sp (ownL ks) (spL ks).length x (if loneB a b c = true then c else none) := by
  have ka : KA L n x (kno x a b c) := ⟨a, b, c, ha, hb, hc, rfl⟩
  have kf : ∀ i, i < ks.length → (kx ks i : Rat) = x → Kr ks i ∈ kno x a b c := by
    intro i hi ex
    obtain ⟨k, kk, hq⟩ := po_ka h P hi
    rw [ex] at kk
    rw [KA_one ka kk]; exact hq
  split
  · rename_i hl
    cases c with
    | none => simp [loneB] at hl
    | some v =>
      have hv : (x, v, false) ∈ kno x a b (some v) := by unfold kno; simp [hl]
      obtain ⟨i, hi, ei, ex⟩ := po_in h P ka hv
      have gi : kg ks i = false := (congrArg (fun q : Kn => q.2.2) ei).symm
      have yi : (ky ks i : Rat) = v := (congrArg (fun q : Kn => q.2.1) ei).symm
      have lo : ∀ u, a = some u → v < u.1 := by
        intro u eu
        rw [eu] at hl
        cases b <;> simp [loneB] at hl <;> grind
      have g2 : i = 0 ∨ kg ks (i - 1) = false := by
        by_cases c0 : i = 0
        · exact Or.inl c0
        · right
          cases hh : kg ks (i - 1) with
          | false => rfl
          | true =>
            exfalso
            obtain ⟨i1, hx, s, hS, hy⟩ := po_next h P (show i - 1 < ks.length by omega) hh
            rw [show i - 1 + 1 = i by omega] at hx hy
            have hx' := lt_cast hx
            have := hS true x (by unfold cvr bey; simp; rw [show i - 1 + 1 = i by omega, ex]; rw [ex] at hx'; grind)
            have := lo _ (Sd_one ha this)
            rw [ex] at hy
            have : v < (ky ks (i - 1) : Rat) + s * (x - (kx ks (i - 1) : Rat)) := this
            grind
      obtain ⟨m, hm, em⟩ := own_ix (ks := ks) (i := i) (sp := (kx ks i, ky ks i, kx ks i, ky ks i)) hi (by unfold spO; rw [if_neg (by rw [gi]; decide), if_pos g2])
      refine ⟨⟨m, hm, ?_, ?_⟩, fun k hk hkl => ?_⟩
      · unfold isLone; rw [em, lby_l.1, lby_l.2.1]; exact ⟨ex, ex⟩
      · rw [em, lby_l.2.2]; exact yi.symm
      · obtain ⟨j, hj, gj, _, exj, evj⟩ := own_lone h P hk hkl
        rw [evj]
        rcases kno_false (kf j hj exj) gj with ⟨u, eu, eq⟩ | ⟨_, v', ev, eq⟩
        · have := lo u eu
          have e2 : (ky ks j : Rat) = u.1 := congrArg (fun q : Kn => q.2.1) eq
          rw [e2]; grind
        · have e2 : (ky ks j : Rat) = v' := congrArg (fun q : Kn => q.2.1) eq
          rw [e2, ← Option.some.inj ev]; grind
  · rename_i hl
    intro k hk hkl
    obtain ⟨j, hj, gj, g2, exj, evj⟩ := own_lone h P hk hkl
    rcases kno_false (kf j hj exj) gj with ⟨u, eu, eq⟩ | ⟨hl2, _⟩
    · rw [eu] at ha
      obtain ⟨i, hi, g, cv⟩ := po_cov h P ha
      unfold cvr bey at cv
      simp at cv
      have hij : i < j := by
        apply Classical.byContradiction
        intro z
        have m := Rat.intCast_le_intCast.mpr (po_mono h P (show j ≤ i by omega) hi)
        grind
      have m1 := Rat.intCast_le_intCast.mpr (po_mono h P (show i + 1 ≤ j by omega) hj)
      by_cases e1 : i + 1 = j
      · rcases g2 with z | z
        · omega
        · rw [show j - 1 = i by omega, g] at z; cases z
      · rcases pw_at (paper_RL h) P (show i + 1 < j by omega) hj with r | r
        · have r : (kx ks (i + 1) : Rat) < (kx ks j : Rat) := r
          grind
        · refine r.2.2 u (show Sd L n true (kx ks j : Rat) (some u) from by rw [exj]; exact ha) ?_
          rw [eq]
    · exact hl hl2
theorem own_KA (h : PaperIs L n ks) (P : StP ks) {x : Rat} {k : List Kn} (ka : KA L n x k) : KA (ownL ks) (spL ks).length x k := by
  obtain ⟨a, b, c, ha, hb, hc, e⟩ := ka
  exact ⟨a, b, _, own_Sd h P ha, own_Sd h P hb, own_Sp h P ha hb hc, by rw [e]; exact kno_lone⟩
theorem own_paper (h : PaperIs L n ks) (P : StP ks) : PaperIs (ownL ks) (spL ks).length ks ∧ StF ks := by
  refine ⟨?_, fun i j hij hj => po_mono h P hij hj, fun k hk g => ⟨(po_next h P hk g).1, (po_next h P hk g).2.1⟩⟩
  obtain ⟨xs, f, a1, a2, a3, e⟩ := id h
  refine ⟨xs, f, a1, fun x k hk hne => ?_, fun x hx => own_KA h P (a3 x hx), e⟩
  obtain ⟨k', ka'⟩ := KA_ex L n x
  have := KA_one (own_KA h P ka') hk
  exact a2 x k (by rw [← this]; exact ka') hne
/-- what a store is -/
def Can (ks : List Kn) : Prop := StO ks ∧ PaperIs (ownL ks) (spL ks).length ks
theorem can_of (h : PaperIs L n ks) (P : StP ks) (h12 : ks.length ≤ 12) : Can ks := ⟨⟨h12, P, (own_paper h P).2⟩, (own_paper h P).1⟩
/-- slopes of a part that follow each other differ -/
theorem can_ns (C : Can ks) {i : Nat} (hi : i < ks.length) (g1 : kg ks i = true) (g2 : kg ks (i + 1) = true) : krise ks i * krun ks (i + 1) ≠ krise ks (i + 1) * krun ks i := by
  intro e
  obtain ⟨i1, hx, s, hS, hy⟩ := po_next C.2 C.1.2.1 hi g1
  obtain ⟨i2, hx2, s2, hS2, hy2⟩ := po_next C.2 C.1.2.1 i1 g2
  have hx' := lt_cast hx
  have hx2' := lt_cast hx2
  unfold krise krun at e
  rw [if_pos g1, if_pos g2, if_pos g1, if_pos g2] at e
  have e' : (((ky ks (i + 1) - ky ks i) * (kx ks (i + 1 + 1) - kx ks (i + 1)) : Int) : Rat) = (((ky ks (i + 1 + 1) - ky ks (i + 1)) * (kx ks (i + 1) - kx ks i) : Int) : Rat) := by rw [e]
  rw [Rat.intCast_mul, Rat.intCast_mul, Rat.intCast_sub, Rat.intCast_sub, Rat.intCast_sub, Rat.intCast_sub] at e'
  have d1 : (kx ks (i + 1) : Rat) - (kx ks i : Rat) ≠ 0 := by grind
  have d2 : (kx ks (i + 1 + 1) : Rat) - (kx ks (i + 1) : Rat) ≠ 0 := by grind
  have es : s = s2 := by grind
  have sa := hS true (kx ks (i + 1)) (by unfold cvr bey; simp; exact hx')
  have sb := hS2 false (kx ks (i + 1)) (by unfold cvr bey; simp; grind)
  obtain ⟨k, ka, hq⟩ := po_ka C.2 C.1.2.1 i1
  obtain ⟨a, b, c, ha, hb, hc, ek⟩ := ka
  have ea := Sd_one ha sa
  have eb := Sd_one hb sb
  rw [ek, ea, eb] at hq
  have hv : (ky ks i : Rat) + s * ((kx ks (i + 1) : Rat) - (kx ks i : Rat)) = (ky ks (i + 1) : Rat) + s2 * ((kx ks (i + 1) : Rat) - (kx ks (i + 1) : Rat)) := by grind
  obtain ⟨w, ew, eq⟩ := kno_true hq g2
  unfold kno at hq
  have hm : meetsB (some ((ky ks i : Rat) + s * ((kx ks (i + 1) : Rat) - (kx ks i : Rat)), s)) (some ((ky ks (i + 1) : Rat) + s2 * ((kx ks (i + 1) : Rat) - (kx ks (i + 1) : Rat)), s2)) = true := by unfold meetsB; simpa using hv
  have hst : strB (some ((ky ks i : Rat) + s * ((kx ks (i + 1) : Rat) - (kx ks i : Rat)), s)) (some ((ky ks (i + 1) : Rat) + s2 * ((kx ks (i + 1) : Rat) - (kx ks (i + 1) : Rat)), s2)) = true := by unfold strB; simpa using es
  rw [hm, hst] at hq
  split at hq
  · simp at hq
  · rename_i hl
    simp at hl
    have hp := pw_at (paper_RL C.2) C.1.2.1 (show i < i + 1 by omega) i1
    -- a lone knot would stand between, and so the left end would end its part
    have hmem : ((kx ks (i + 1) : Rat), (ky ks i : Rat) + s * ((kx ks (i + 1) : Rat) - (kx ks i : Rat)), false) ∈ kno (kx ks (i + 1)) a b c := by
      rw [ea, eb]
      unfold kno
      rw [hm, hst, hl]
      simp
    have ka2 : KA (ownL ks) (spL ks).length (kx ks (i + 1)) (kno (kx ks (i + 1)) a b c) := ⟨a, b, c, ha, hb, hc, rfl⟩
    obtain ⟨j, hj, ej, ex⟩ := po_in C.2 C.1.2.1 ka2 hmem
    have gj : kg ks j = false := (congrArg (fun q : Kn => q.2.2) ej).symm
    have hne : j ≠ i + 1 := fun z => by rw [z, g2] at gj; cases gj
    rcases Nat.lt_or_gt_of_ne hne with c1 | c1
    · have m := Rat.intCast_le_intCast.mpr (po_mono C.2 C.1.2.1 (show j ≤ i by omega) hi)
      grind
    · rcases pw_at (paper_RL C.2) C.1.2.1 c1 hj with r | r
      · have r : (kx ks (i + 1) : Rat) < (kx ks j : Rat) := r
        grind
      · have r2 : kg ks (i + 1) = false := r.2.1
        rw [g2] at r2; cases r2
end OW
