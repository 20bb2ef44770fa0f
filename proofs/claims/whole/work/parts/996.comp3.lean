/-! compare: both see the same -/
section CM
variable {h : xH} {f g : List Kn} {x : Int} {ob : Obs} {p : Rat × Rat}
theorem fo_mem {st : Nat → Obs → Obs} {T : Nat → Prop} (hst : ∀ k ob, p ∈ st k ob ↔ p ∈ ob ∨ T k) : ∀ (d k : Nat) (ob : Obs), p ∈ fo st d k ob ↔ p ∈ ob ∨ ∃ j, k ≤ j ∧ j < k + d ∧ T j := by
  intro d
  induction d with
  | zero => intro k ob; unfold fo; constructor; exact Or.inl; rintro (z | ⟨j, j1, j2, _⟩); exact z; omega
  | succ d ih =>
    intro k ob
    unfold fo
    rw [ih, hst]
    constructor
    · rintro ((z | z) | ⟨j, j1, j2, z⟩)
      · exact Or.inl z
      · exact Or.inr ⟨k, by omega, by omega, z⟩
      · exact Or.inr ⟨j, by omega, by omega, z⟩
    · rintro (z | ⟨j, j1, j2, z⟩)
      · exact Or.inl (Or.inl z)
      · by_cases eq : j = k
        · rw [eq] at z; exact Or.inl (Or.inr z)
        · exact Or.inr ⟨j, by omega, by omega, z⟩
theorem pr_mem {v w : Option Rat} : p ∈ pr v w ↔ v = some p.1 ∧ w = some p.2 := by
  unfold pr
  cases v with
  | none => simp
  | some a =>
    cases w with
    | none => simp
    | some b =>
      simp only [List.mem_singleton, Option.some.injEq]
      constructor
      · intro z; rw [z]; exact ⟨rfl, rfl⟩
      · rintro ⟨z1, z2⟩; rw [z1, z2]
theorem cO_is {ks : List Kn} (F : StF ks) (sd : Bool) (x : Int) : IsC ks sd (x : Rat) (cO ks sd x) := by
  by_cases c : ∃ k, k < ks.length ∧ kg ks k = true ∧ cvr ks sd (x : Rat) k
  · obtain ⟨k, hk, gk, ck⟩ := c
    have := IsC_k F hk gk ck
    rw [cO_eq F this]; exact this
  · have := IsC_no F (sd := sd) (x := x) (fun k hk gk ck => c ⟨k, hk, gk, ck⟩)
    rw [cO_eq F this]; exact this
theorem cO_some {ks : List Kn} (F : StF ks) {sd : Bool} {x : Int} {a : Rat} : cO ks sd x = some a ↔ ∃ m, m < (spL ks).length ∧ lv (ownL ks) sd (x : Rat) m ∧ a = vl (ownL ks m) (x : Rat) := by
  constructor
  · intro z
    have := cO_is F sd x
    rw [z] at this
    exact this
  · intro z
    exact cO_eq F (v := some a) z
theorem ln_at {ks : List Kn} (F : StF ks) {m : Nat} (hm : m < (spL ks).length) (hft : lnF (ownL ks m) < lnT (ownL ks m)) : ∃ i, i + 1 < ks.length ∧ lnF (ownL ks m) = kx ks i ∧ lnT (ownL ks m) = kx ks (i + 1) := by
  obtain ⟨i, sp, hi, e0, eo⟩ := own_of hm
  unfold spO at e0
  split at e0
  · rename_i gk
    have ff := F.2 i hi gk
    have e1 : lnF (lby (kx ks i, ky ks i, kx ks (i + 1), ky ks (i + 1))) = kx ks i ∧ lnT (lby (kx ks i, ky ks i, kx ks (i + 1), ky ks (i + 1))) = kx ks (i + 1) := by
      unfold lby; rw [if_neg (by show ¬ kx ks i = kx ks (i + 1); omega)]; exact ⟨rfl, rfl⟩
    rw [eo, ← Option.some.inj e0]
    exact ⟨i, ff.1, e1.1, e1.2⟩
  · split at e0
    · rw [eo, ← Option.some.inj e0, lby_l.1, lby_l.2.1] at hft
      omega
    · cases e0
/-- a knot inside a line's reach is its end -/
theorem kn_end {ks : List Kn} (F : StF ks) {m k : Nat} (hm : m < (spL ks).length) (hk : k < ks.length) : (lnF (ownL ks m) < kx ks k → kx ks k ≤ lnT (ownL ks m) → kx ks k = lnT (ownL ks m)) ∧ (lnF (ownL ks m) ≤ kx ks k → kx ks k < lnT (ownL ks m) → kx ks k = lnF (ownL ks m)) := by
  constructor
  · intro z1 z2
    obtain ⟨i, hi, e1, e2⟩ := ln_at F hm (by omega)
    rw [e1] at z1
    rw [e2] at z2 ⊢
    by_cases c : k ≤ i
    · have := F.1 k i c (by omega); omega
    · have := F.1 (i + 1) k (by omega) hk; omega
  · intro z1 z2
    obtain ⟨i, hi, e1, e2⟩ := ln_at F hm (by omega)
    rw [e1] at z1 ⊢
    rw [e2] at z2
    by_cases c : k ≤ i
    · have := F.1 k i c (by omega); omega
    · have := F.1 (i + 1) k (by omega) hk; omega
def KnX (f g : List Kn) (x : Int) : Prop := (∃ k, k < f.length ∧ kx f k = x) ∨ ∃ k, k < g.length ∧ kx g k = x
theorem lvi {ks : List Kn} {m : Nat} {x : Int} : (lv (ownL ks) true (x : Rat) m ↔ lnF (ownL ks m) < x ∧ x ≤ lnT (ownL ks m)) ∧ (lv (ownL ks) false (x : Rat) m ↔ lnF (ownL ks m) ≤ x ∧ x < lnT (ownL ks m)) := by
  unfold lv bey
  constructor
  · simp [Rat.intCast_lt_intCast]
  · simp [Rat.intCast_le_intCast]
theorem trM_mem {la lb : Ln} : p ∈ trM la lb ↔ ∃ x : Int, ((x = (if lnF lb < lnF la then lnF la else lnF lb)) ∨ (x = (if lnT la < lnT lb then lnT la else lnT lb))) ∧ (if lnF lb < lnF la then lnF la else lnF lb) < (if lnT la < lnT lb then lnT la else lnT lb) ∧ p = (vl la (x : Rat), vl lb (x : Rat)) := by
  unfold trM
  generalize (if lnF lb < lnF la then lnF la else lnF lb) = u
  generalize (if lnT la < lnT lb then lnT la else lnT lb) = v
  split
  · rename_i c
    simp only [List.mem_cons, List.not_mem_nil, or_false]
    constructor
    · rintro (z | z)
      · exact ⟨u, Or.inl rfl, c, z⟩
      · exact ⟨v, Or.inr rfl, c, z⟩
    · rintro ⟨x, rfl | rfl, _, z⟩
      · exact Or.inl z
      · exact Or.inr z
  · rename_i c
    constructor
    · intro z; cases z
    · rintro ⟨x, _, z, _⟩; exact absurd z c
theorem both_see (F1 : StF f) (F2 : StF g) : (∃ x, KnX f g x ∧ ((cO f true x = some p.1 ∧ cO g true x = some p.2) ∨ (cO f false x = some p.1 ∧ cO g false x = some p.2))) ↔ ∃ a b, a < (spL f).length ∧ b < (spL g).length ∧ p ∈ trM (ownL f a) (ownL g b) := by
  constructor
  · rintro ⟨x, kn, z⟩
    rcases z with ⟨z1, z2⟩ | ⟨z1, z2⟩
    · obtain ⟨a, ha, va, ea⟩ := (cO_some F1).mp z1
      obtain ⟨b, hb, vb, eb⟩ := (cO_some F2).mp z2
      rw [lvi.1] at va vb
      refine ⟨a, b, ha, hb, trM_mem.mpr ⟨x, Or.inr ?_, ?_, Prod.ext ea eb⟩⟩
      · rcases kn with ⟨k, hk, ek⟩ | ⟨k, hk, ek⟩
        · have := (kn_end F1 ha hk).1 (by omega) (by omega)
          split <;> omega
        · have := (kn_end F2 hb hk).1 (by omega) (by omega)
          split <;> omega
      · split <;> split <;> omega
    · obtain ⟨a, ha, va, ea⟩ := (cO_some F1).mp z1
      obtain ⟨b, hb, vb, eb⟩ := (cO_some F2).mp z2
      rw [lvi.2] at va vb
      refine ⟨a, b, ha, hb, trM_mem.mpr ⟨x, Or.inl ?_, ?_, Prod.ext ea eb⟩⟩
      · rcases kn with ⟨k, hk, ek⟩ | ⟨k, hk, ek⟩
        · have := (kn_end F1 ha hk).2 (by omega) (by omega)
          split <;> omega
        · have := (kn_end F2 hb hk).2 (by omega) (by omega)
          split <;> omega
      · split <;> split <;> omega
  · rintro ⟨a, b, ha, hb, z⟩
    obtain ⟨x, hx, hlt, ep⟩ := trM_mem.mp z
    have fa : lnF (ownL f a) < lnT (ownL f a) := by split at hlt <;> split at hlt <;> omega
    have fb : lnF (ownL g b) < lnT (ownL g b) := by split at hlt <;> split at hlt <;> omega
    obtain ⟨i, hi, e1, e2⟩ := ln_at F1 ha fa
    obtain ⟨j, hj, e3, e4⟩ := ln_at F2 hb fb
    have p1 : p.1 = vl (ownL f a) (x : Rat) := by rw [ep]
    have p2 : p.2 = vl (ownL g b) (x : Rat) := by rw [ep]
    rcases hx with hx | hx
    · refine ⟨x, ?_, Or.inr ⟨(cO_some F1).mpr ⟨a, ha, lvi.2.mpr ?_, p1⟩, (cO_some F2).mpr ⟨b, hb, lvi.2.mpr ?_, p2⟩⟩⟩
      · by_cases c : lnF (ownL g b) < lnF (ownL f a)
        · rw [if_pos c] at hx
          exact Or.inl ⟨i, by omega, by omega⟩
        · rw [if_neg c] at hx
          exact Or.inr ⟨j, by omega, by omega⟩
      · split at hlt <;> split at hlt <;> simp_all <;> omega
      · split at hlt <;> split at hlt <;> simp_all <;> omega
    · refine ⟨x, ?_, Or.inl ⟨(cO_some F1).mpr ⟨a, ha, lvi.1.mpr ?_, p1⟩, (cO_some F2).mpr ⟨b, hb, lvi.1.mpr ?_, p2⟩⟩⟩
      · by_cases c : lnT (ownL f a) < lnT (ownL g b)
        · rw [if_pos c] at hx
          exact Or.inl ⟨i + 1, by omega, by omega⟩
        · rw [if_neg c] at hx
          exact Or.inr ⟨j + 1, by omega, by omega⟩
      · split at hlt <;> split at hlt <;> simp_all <;> omega
      · split at hlt <;> split at hlt <;> simp_all <;> omega
theorem obC_mem : p ∈ obC f g ↔ ∃ x, KnX f g x ∧ ((vO f x = some p.1 ∧ vO g x = some p.2) ∨ (cO f true x = some p.1 ∧ cO g true x = some p.2) ∨ (cO f false x = some p.1 ∧ cO g false x = some p.2)) := by
  have st : ∀ ks : List Kn, ∀ k ob, p ∈ sCm ks f g k ob ↔ p ∈ ob ∨ p ∈ trC f g (kx ks k) := by
    intro ks k ob; unfold sCm; rw [List.mem_append]
  have tr : ∀ x, p ∈ trC f g x ↔ ((vO f x = some p.1 ∧ vO g x = some p.2) ∨ (cO f true x = some p.1 ∧ cO g true x = some p.2) ∨ (cO f false x = some p.1 ∧ cO g false x = some p.2)) := by
    intro x; unfold trC; rw [List.mem_append, List.mem_append, pr_mem, pr_mem, pr_mem]
  unfold obC
  rw [fo_mem (st g), fo_mem (st f)]
  constructor
  · rintro ((z | ⟨j, j1, j2, z⟩) | ⟨j, j1, j2, z⟩)
    · cases z
    · exact ⟨kx f j, Or.inl ⟨j, by omega, rfl⟩, (tr _).mp z⟩
    · exact ⟨kx g j, Or.inr ⟨j, by omega, rfl⟩, (tr _).mp z⟩
  · rintro ⟨x, ⟨k, hk, ek⟩ | ⟨k, hk, ek⟩, z⟩
    · exact Or.inl (Or.inr ⟨k, by omega, by omega, by rw [ek]; exact (tr _).mpr z⟩)
    · exact Or.inr ⟨k, by omega, by omega, by rw [ek]; exact (tr _).mpr z⟩
noncomputable def obR (f g : List Kn) : Obs := fo (sMa f g) (spL f).length 0 (fo (sMv f g) (f.length + g.length) 0 [])
theorem obR_mem : p ∈ obR f g ↔ (∃ x, KnX f g x ∧ (vO f x = some p.1 ∧ vO g x = some p.2)) ∨ ∃ a b, a < (spL f).length ∧ b < (spL g).length ∧ p ∈ trM (ownL f a) (ownL g b) := by
  have st : ∀ k ob, p ∈ sMv f g k ob ↔ p ∈ ob ∨ (vO f (xx f g k) = some p.1 ∧ vO g (xx f g k) = some p.2) := by
    intro k ob; unfold sMv; rw [List.mem_append, pr_mem]
  have sb : ∀ (la : Ln) k ob, p ∈ sMb la g k ob ↔ p ∈ ob ∨ p ∈ trM la (ownL g k) := by
    intro la k ob; unfold sMb; rw [List.mem_append]
  have sa : ∀ k ob, p ∈ sMa f g k ob ↔ p ∈ ob ∨ ∃ b, 0 ≤ b ∧ b < 0 + (spL g).length ∧ p ∈ trM (ownL f k) (ownL g b) := by
    intro k ob; unfold sMa; rw [fo_mem (sb (ownL f k))]
  unfold obR
  rw [fo_mem sa, fo_mem st]
  constructor
  · rintro ((z | ⟨j, j1, j2, z⟩) | ⟨j, j1, j2, b, b1, b2, z⟩)
    · cases z
    · left
      refine ⟨xx f g j, ?_, z⟩
      unfold xx
      split
      · rename_i c; exact Or.inl ⟨j, c, rfl⟩
      · rename_i c; exact Or.inr ⟨j - f.length, by omega, rfl⟩
    · exact Or.inr ⟨j, b, by omega, by omega, z⟩
  · rintro (⟨x, ⟨k, hk, ek⟩ | ⟨k, hk, ek⟩, z⟩ | ⟨a, b, ha, hb, z⟩)
    · refine Or.inl (Or.inr ⟨k, by omega, by omega, ?_⟩)
      have : xx f g k = x := by unfold xx; rw [if_pos hk]; exact ek
      rw [this]; exact z
    · refine Or.inl (Or.inr ⟨f.length + k, by omega, by omega, ?_⟩)
      have : xx f g (f.length + k) = x := by unfold xx; rw [if_neg (by omega), Nat.add_sub_cancel_left]; exact ek
      rw [this]; exact z
    · exact Or.inr ⟨a, by omega, by omega, b, by omega, by omega, z⟩
theorem vdt_eq {o1 o2 : Obs} (he : ∀ p, p ∈ o1 ↔ p ∈ o2) : vdt o1 = vdt o2 := by
  have e1 : obM o1 = obM o2 := by
    unfold obM
    cases o1 with
    | nil =>
      cases o2 with
      | nil => rfl
      | cons q t => have := (he q).mpr List.mem_cons_self; cases this
    | cons q t =>
      cases o2 with
      | nil => have := (he q).mp List.mem_cons_self; cases this
      | cons q t => rfl
  have e2 : obL o1 = obL o2 := by
    unfold obL
    rw [Bool.eq_iff_iff, List.any_eq_true, List.any_eq_true]
    constructor
    · rintro ⟨q, hq, z⟩; exact ⟨q, (he q).mp hq, z⟩
    · rintro ⟨q, hq, z⟩; exact ⟨q, (he q).mpr hq, z⟩
  have e3 : obH o1 = obH o2 := by
    unfold obH
    rw [Bool.eq_iff_iff, List.any_eq_true, List.any_eq_true]
    constructor
    · rintro ⟨q, hq, z⟩; exact ⟨q, (he q).mp hq, z⟩
    · rintro ⟨q, hq, z⟩; exact ⟨q, (he q).mpr hq, z⟩
  unfold vdt
  rw [e1, e2, e3]
theorem vdt_cr (F1 : StF f) (F2 : StF g) : vdt (obC f g) = vdt (obR f g) := by
  refine vdt_eq (fun q => ?_)
  rw [obC_mem, obR_mem, ← both_see F1 F2]
  constructor
  · rintro ⟨x, kn, z | z | z⟩
    · exact Or.inl ⟨x, kn, z⟩
    · exact Or.inr ⟨x, kn, Or.inl z⟩
    · exact Or.inr ⟨x, kn, Or.inr z⟩
  · rintro (⟨x, kn, z⟩ | ⟨x, kn, z | z⟩)
    · exact ⟨x, kn, Or.inl z⟩
    · exact ⟨x, kn, Or.inr (Or.inl z)⟩
    · exact ⟨x, kn, Or.inr (Or.inr z)⟩
theorem m_c39 {cur : Nat → List Kn} (C : CurOk cur) {i j : Nat} (hi : i < 6) (hj : j < 6) : ∀ (d k m : Nat) (h : xH) (ob : Obs), k + d = (cur i).length + (cur j).length → d < m → MI0 h cur → RvM h ob → ∃ h', fX7_compare_l39 m 220 (i32 i) (i32 j) (i32 (k : Int)) h = some (i32 (vdt (fo (sMa (cur i) (cur j)) (spL (cur i)).length 0 (fo (sMv (cur i) (cur j)) d k ob))), h') ∧ Fr MSc h h' := by
  have O1 := (C.1 i hi).1
  have O2 := (C.1 j hj).1
  have c1 := O1.1
  have c2 := O2.1
  have l1 := sp_len (cur i)
  have l2 := sp_len (cur j)
  intro d
  induction d with
  | zero =>
    intro k m h ob hk hm J V
    obtain ⟨m, rfl⟩ : ∃ k, m = k + 1 := ⟨m - 1, by omega⟩
    have f0 : Fr MSv h (sI h 220 19 0) := Fr.I _ (Or.inr ⟨rfl, by omega⟩)
    have q0 := f0.mo J.1
    obtain ⟨g1, E1, w1, F1⟩ := m_linesOf (ll := []) hi O1 q0 ((J.2.1 i hi).fr f0 MSv_222) ⟨by rw [hI_sI, if_pos ⟨rfl, rfl⟩]; rfl, fun k l e => by simp at e⟩ (by show 0 + 12 ≤ 700; decide)
    rw [List.nil_append] at w1
    have F1' := F1.mono (B := MSv) (fun _ _ z => AQ_mv z)
    have q1 := F1'.mo q0
    obtain ⟨g2, E2, w2, F2⟩ := m_linesOf hj O2 q1 (((J.2.1 j hj).fr f0 MSv_222).fr F1' MSv_222) w1 (by rw [List.length_map]; omega)
    have F2' := F2.mono (B := MSv) (fun _ _ z => AQ_mv z)
    have na : ¬ MSv 220 54 ∧ ¬ MSv 220 55 ∧ ¬ MSv 220 56 := by unfold MSv; omega
    have V2 := ((V.fr f0 na).fr F1' na).fr F2' na
    have W2 : Ow2 g2 (cur i) (cur j) := by
      refine ⟨?_, ?_⟩
      · have := w2.l; rw [List.length_append, List.length_map, List.length_map] at this; exact this
      · have := w2.1; rw [List.length_append, List.length_map, List.length_map] at this; exact this
    obtain ⟨g3, E3, F3⟩ := m_c166 O1 O2 (spL (cur i)).length 0 FU g2 ob (by omega) (by rw [FU_eq]; omega) (F2'.mo q1) W2 V2
    refine ⟨g3, ?_, (((f0.tr F1').tr F2').mono (fun _ _ z => MSv_ms z)).tr (F3.mono (fun _ _ z => A54_ms z))⟩
    have e19 : hI g1 220 19 = i32 ((spL (cur i)).length : Int) := by have := w1.1; rw [List.length_map] at this; exact this
    show fX7_compare_b39 _ 220 _ _ _ h = _
    unfold fX7_compare_b39
    rw [if_pos J.1.k220, m_many J.1 hi (J.2.1 i hi), bd_some, m_many J.1 hj (J.2.1 j hj), bd_some, i32_add, if_pos (by rw [show k = (cur i).length + (cur j).length by omega]; exact Int32.le_refl _), lt_def, E1, bd_some, lt_def, e19, E2, bd_some, lt_def]
    exact E3
  | succ d ih =>
    intro k m h ob hk hm J V
    obtain ⟨m, rfl⟩ : ∃ k, m = k + 1 := ⟨m - 1, by omega⟩
    have bx : -5940 ≤ xx (cur i) (cur j) k ∧ xx (cur i) (cur j) k ≤ 5940 := by
      unfold xx
      split
      · rename_i c; have := O1.2.1.b c; omega
      · rename_i c; have := O2.2.1.b (show k - (cur i).length < (cur j).length by omega); omega
    obtain ⟨g1, E1, V1, F1⟩ := m_c84 J.1 hi hj (J.2.1 i hi) (J.2.1 j hj) O1 O2 bx V (fX7_compare_l39 m) (i32 (k : Int))
    obtain ⟨g2, E2, F2⟩ := ih (k + 1) m g1 _ (by omega) (by omega) (J.fr F1) V1
    refine ⟨g2, ?_, F1.tr F2⟩
    show fX7_compare_b39 _ 220 _ _ _ h = _
    unfold fX7_compare_b39
    have nle : ¬ i32 (((cur i).length : Int) + ((cur j).length : Int)) ≤ i32 (k : Int) := fun z => by
      have := (i32_le (a := ((cur i).length : Int) + ((cur j).length : Int)) (b := (k : Int)) ⟨by omega, by omega⟩ ⟨by omega, by omega⟩).mp z
      omega
    rw [if_pos J.1.k220, m_many J.1 hi (J.2.1 i hi), bd_some, m_many J.1 hj (J.2.1 j hj), bd_some, i32_add, if_neg nle, m_many J.1 hi (J.2.1 i hi), bd_some]
    rw [one32, i32_add, kp1] at E1
    have E1' : ∀ y : Int, y = xx (cur i) (cur j) k → fX7_compare_b84 (fX7_compare_l39 m) (i32 y) 220 (i32 (i : Int)) (i32 (j : Int)) (i32 (k : Int)) h = some (i32 (vdt (fo (sMa (cur i) (cur j)) (spL (cur i)).length 0 (fo (sMv (cur i) (cur j)) d (k + 1) (ob ++ pr (vO (cur i) (xx (cur i) (cur j) k)) (vO (cur j) (xx (cur i) (cur j) k)))))), g2) := by
      intro y ey
      rw [ey, E1]; exact E2
    by_cases c : k < (cur i).length
    · rw [if_neg (nle32 c (by omega)), m_xOf J.1 hi c1 (J.2.1 i hi) c, bd_some]
      exact E1' _ (by unfold xx; rw [if_pos c])
    · rw [if_pos ((i32_le ⟨by omega, by omega⟩ ⟨by omega, by omega⟩).mpr (by omega)), m_many J.1 hi (J.2.1 i hi), bd_some, i32_sub, show (k : Int) - ((cur i).length : Int) = ((k - (cur i).length : Nat) : Int) by omega, m_xOf J.1 hj c2 (J.2.1 j hj) (show k - (cur i).length < (cur j).length by omega), bd_some]
      exact E1' _ (by unfold xx; rw [if_neg c])
theorem Q_compare {cur : Nat → List Kn} (C : CurOk cur) (a b : Int32) : Ag cur (fX6_compare 2 a b) (fX7_compare 220 a b) := by
  obtain ⟨i, bi, rfl⟩ := i32_ex a
  obtain ⟨j, bj, rfl⟩ := i32_ex b
  intro h h' I J
  unfold fX6_compare fX7_compare
  simp only [if_pos J.1.k220, lt_def, c_isStore bi, m_isStore bi, c_isStore bj, m_isStore bj, bd_some, bzd]
  by_cases h1 : 0 ≤ i ∧ i ≤ 5
  · by_cases h2 : 0 ≤ j ∧ j ≤ 5
    · simp only [if_pos h1, if_pos h2]
      obtain ⟨n, rfl⟩ : ∃ n : Nat, i = n := ⟨i.toNat, by omega⟩
      obtain ⟨n2, rfl⟩ : ∃ n : Nat, j = n := ⟨j.toNat, by omega⟩
      have hn : n < 6 := by omega
      have hn2 : n2 < 6 := by omega
      have O1 := (C.1 n hn).1
      have O2 := (C.1 n2 hn2).1
      have d1 := O1.1
      have d2 := O2.1
      have co := I.1
      have f0 : Fr MSc h' (sI (sI (sI (sI h' 220 0 0) 220 54 0) 220 55 0) 220 56 0) := (((thr0 h').tr (Fr.I _ (Or.inr ⟨rfl, by omega⟩))).tr (Fr.I _ (Or.inr ⟨rfl, by omega⟩))).tr (Fr.I _ (Or.inr ⟨rfl, by omega⟩))
      obtain ⟨g3, E3, F3⟩ := m_c39 C hn hn2 ((cur n).length + (cur n2).length) 0 FU _ [] (by omega) (by rw [FU_eq]; omega) (J.fr f0) ⟨by simp [hI_sI, obM, bz], by simp [hI_sI, obL, bz], by simp [hI_sI, obH, bz]⟩
      have E3' : fX7_compare_l39 FU 220 (i32 (n : Int)) (i32 (n2 : Int)) 0 (sI (sI (sI (sI h' 220 0 0) 220 54 0) 220 55 0) 220 56 0) = some (i32 (vdt (obR (cur n) (cur n2))), g3) := E3
      have k0 : Fr CSc h (sI (sI (sI h 91 0 0) 91 1 0) 91 2 0) := ((Fr.I _ (Or.inl ⟨by decide, by decide⟩)).tr (Fr.I _ (Or.inl ⟨by decide, by decide⟩))).tr (Fr.I _ (Or.inl ⟨by decide, by decide⟩))
      obtain ⟨g1, G1, V1, H1⟩ := c_mk3 C hn hn2 hn (cur n).length 0 FU _ [] (by omega) (by rw [FU_eq]; omega) (I.fc k0) ⟨by simp [hI_sI, obM, bz], by simp [hI_sI, obL, bz], by simp [hI_sI, obH, bz]⟩
      have K1 := k0.tr H1
      obtain ⟨g2, G2, V2, H2⟩ := c_mk3 C hn hn2 hn2 (cur n2).length 0 FU g1 _ (by omega) (by rw [FU_eq]; omega) (I.fc K1) V1
      have K2 := K1.tr H2
      have co0 := k0.co co
      have co1 := K1.co co
      have co2 := K2.co co
      have sl := (I.fc k0).s (show n < 7 by omega)
      have sl2 := (I.fc k0).s (show n2 < 7 by omega)
      have tl := (I.fc K1).s (show n < 7 by omega)
      have tl2 := (I.fc K1).s (show n2 < 7 by omega)
      have V2' : RvC g2 (obC (cur n) (cur n2)) := V2
      rw [E3']
      refine ⟨_, g2, g3, ?_, K2, rfl, f0.tr F3⟩
      have es : fX3_start 91 h = some ((), sI (sI (sI h 91 0 0) 91 1 0) 91 2 0) := by
        unfold fX3_start
        rw [if_pos co.k91]; simp only [lt_def]
      have G1' : fX3_meetAtKnotsOf 91 (hR (sI (sI (sI h 91 0 0) 91 1 0) 91 2 0) 3 (i32 (n : Int)).toNatClampNeg) (hR (sI (sI (sI h 91 0 0) 91 1 0) 91 2 0) 3 (i32 (n : Int)).toNatClampNeg) (hR (sI (sI (sI h 91 0 0) 91 1 0) 91 2 0) 3 (i32 (n2 : Int)).toNatClampNeg) (sI (sI (sI h 91 0 0) 91 1 0) 91 2 0) = some ((), g1) := by rw [sl.2, sl2.2]; exact G1
      have G2' : fX3_meetAtKnotsOf 91 (hR g1 3 (i32 (n2 : Int)).toNatClampNeg) (hR g1 3 (i32 (n : Int)).toNatClampNeg) (hR g1 3 (i32 (n2 : Int)).toNatClampNeg) g1 = some ((), g2) := by rw [sl.2, sl2.2]; exact G2
      rw [if_pos co.k2, co.r2_15, if_pos co.k91, es, bd_some, co0.r2_0, if_pos co0.k3, if_pos sl.1, if_pos sl2.1, co0.r2_15, if_pos co0.k91, G1', bd_some, co1.r2_0, if_pos co1.k3, if_pos tl2.1, if_pos tl.1, co1.r2_15, if_pos co1.k91, G2', bd_some, co2.r2_15, if_pos co2.k91, c_verdict co2.k91 V2', bd_some, vdt_cr O1.2.2 O2.2.2]
    · simp only [if_pos h1, if_neg h2]
      exact ⟨_, h, _, rfl, Fr.rf h, rfl, thr0 h'⟩
  · simp only [if_neg h1]
    exact ⟨_, h, _, rfl, Fr.rf h, rfl, thr0 h'⟩
end CM
