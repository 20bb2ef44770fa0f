/-! A PAPER OF PLACES IS THE PAPER OF ITS OWN LINES -/
theorem den_one {q : Rat} (h : q.den = 1) : (q.num : Rat) = q := Rat.ext rfl h.symm
def Kr (ks : List Kn) (i : Nat) : Kn := ((kx ks i : Rat), (ky ks i : Rat), kg ks i)
section OW
variable {L : Nat → Ln} {n : Nat} {ks : List Kn}
theorem Kr_at (P : StP ks) {i : Nat} (hi : i < ks.length) : ks[i]? = some (Kr ks i) := by
  obtain ⟨q, hq, e, e1, e2, e3⟩ := k_at hi
  have p := P q hq
  have : Kr ks i = q := by unfold Kr; rw [e1, e2, e3, den_one p.1, den_one p.2.1]
  rw [this]; exact e
theorem Kr_mem (P : StP ks) {i : Nat} (hi : i < ks.length) : Kr ks i ∈ ks := List.mem_of_getElem? (Kr_at P hi)
theorem Kr_ex (P : StP ks) {q : Kn} (hq : q ∈ ks) : ∃ i, i < ks.length ∧ q = Kr ks i := by
  obtain ⟨i, hi, e⟩ := List.mem_iff_getElem.mp hq
  have := Kr_at P hi
  rw [List.getElem?_eq_getElem hi] at this
  exact ⟨i, hi, by rw [← e]; exact Option.some.inj this⟩
theorem pw_at {R : Kn → Kn → Prop} (h : ks.Pairwise R) (P : StP ks) {i j : Nat} (hij : i < j) (hj : j < ks.length) : R (Kr ks i) (Kr ks j) := by
  have hi : i < ks.length := by omega
  have := List.pairwise_iff_getElem.mp h i j hi hj hij
  have a := Kr_at P hi
  have b := Kr_at P hj
  rw [List.getElem?_eq_getElem hi] at a
  rw [List.getElem?_eq_getElem hj] at b
  rw [← Option.some.inj a, ← Option.some.inj b]
  exact this
theorem po_mono (h : PaperIs L n ks) (P : StP ks) {i j : Nat} (hij : i ≤ j) (hj : j < ks.length) : kx ks i ≤ kx ks j := by
  by_cases e : i = j
  · rw [e]; exact Int.le_refl _
  · have := pw_at (paper_RL h) P (show i < j by omega) hj
    have h2 : (kx ks i : Rat) ≤ (kx ks j : Rat) := by
      rcases this with z | z
      · have z : (kx ks i : Rat) < (kx ks j : Rat) := z
        grind
      · have z : (kx ks i : Rat) = (kx ks j : Rat) := z.1
        grind
    exact_mod_cast h2
theorem po_in (h : PaperIs L n ks) (P : StP ks) {z : Rat} {k : List Kn} {q : Kn} (ka : KA L n z k) (hq : q ∈ k) : ∃ j, j < ks.length ∧ q = Kr ks j ∧ (kx ks j : Rat) = z := by
  have e : q.1 = z := by
    obtain ⟨a, b, c, _, _, _, ek⟩ := ka
    rw [ek] at hq; exact kno_x q hq
  have hm : q ∈ ks := (paper_mem h q).mpr ⟨k, by rw [e]; exact ka, hq⟩
  obtain ⟨j, hj, ej⟩ := Kr_ex P hm
  exact ⟨j, hj, ej, by rw [← e, ej]; rfl⟩
theorem po_ka (h : PaperIs L n ks) (P : StP ks) {i : Nat} (hi : i < ks.length) : ∃ k, KA L n (kx ks i) k ∧ Kr ks i ∈ k := (paper_mem h (Kr ks i)).mp (Kr_mem P hi)
theorem po_no (h : PaperIs L n ks) (P : StP ks) {i : Nat} (hi : i < ks.length) {z : Rat} {k : List Kn} (z1 : (kx ks i : Rat) < z) (z2 : i + 1 < ks.length → z < (kx ks (i + 1) : Rat)) (ka : KA L n z k) : k = [] := by
  cases k with
  | nil => rfl
  | cons q t =>
    exfalso
    obtain ⟨j, hj, _, ez⟩ := po_in h P ka List.mem_cons_self
    by_cases c : j ≤ i
    · have m := Rat.intCast_le_intCast.mpr (po_mono h P c hi)
      grind
    · have m := Rat.intCast_le_intCast.mpr (po_mono h P (show i + 1 ≤ j by omega) hj)
      have := z2 (by omega)
      grind
def cvr (ks : List Kn) (sd : Bool) (x : Rat) (i : Nat) : Prop := bey sd x (kx ks i) ∧ ¬ bey sd x (kx ks (i + 1))
theorem po_next (h : PaperIs L n ks) (P : StP ks) {i : Nat} (hi : i < ks.length) (g : kg ks i = true) : i + 1 < ks.length ∧ kx ks i < kx ks (i + 1) ∧ ∃ s : Rat, (∀ sd x, cvr ks sd x i → Sd L n sd x (some ((ky ks i : Rat) + s * (x - (kx ks i : Rat)), s))) ∧ (ky ks (i + 1) : Rat) = (ky ks i : Rat) + s * ((kx ks (i + 1) : Rat) - (kx ks i : Rat)) := by
  obtain ⟨k, ka, hq⟩ := po_ka h P hi
  obtain ⟨a, b, c, ha, hb, hc, e⟩ := id ka
  rw [e] at hq
  obtain ⟨w, eb, eq⟩ := kno_true hq g
  rw [eb] at hb
  have ew : (ky ks i : Rat) = w.1 := congrArg (fun q : Kn => q.2.1) eq
  have hi1 : i + 1 < ks.length := by
    obtain ⟨y, k', hy, ka', hne⟩ := after_ex hb
    cases k' with
    | nil => exact absurd rfl hne
    | cons q t =>
      obtain ⟨j, hj, _, ez⟩ := po_in h P ka' List.mem_cons_self
      have : ¬ j ≤ i := fun z => by
        have m := Rat.intCast_le_intCast.mpr (po_mono h P z hi)
        grind
      omega
  have hx : kx ks i < kx ks (i + 1) := by
    rcases pw_at (paper_RL h) P (show i < i + 1 by omega) hi1 with z | z
    · have z : (kx ks i : Rat) < (kx ks (i + 1) : Rat) := z
      exact_mod_cast z
    · have z2 : kg ks i = false := z.2.1
      rw [g] at z2; cases z2
  have hT : ∀ x : Rat, (kx ks i : Rat) < x → x ≤ (kx ks (i + 1) : Rat) → Sd L n true x (some ((ky ks i : Rat) + w.2 * (x - (kx ks i : Rat)), w.2)) := by
    intro x x1 x2
    rw [ew]
    exact wlkR _ _ w (Nat.le_refl _) hb (fun z k z1 z2 kz => po_no h P hi z1 (fun _ => z2) kz) x x1 x2
  have hx' := lt_cast hx
  refine ⟨hi1, hx, w.2, ?_, ?_⟩
  · intro sd x cv
    unfold cvr bey at cv
    cases sd
    · simp at cv
      by_cases e : x = (kx ks i : Rat)
      · rw [e, ew]
        have : (w.1 + w.2 * ((kx ks i : Rat) - (kx ks i : Rat)), w.2) = w := Prod.ext (by show w.1 + w.2 * _ = w.1; grind) rfl
        rw [this]; exact hb
      · exact (no_eq (fun k kz => po_no h P hi (by grind) (fun _ => by grind) kz)).mp (hT x (by grind) (by grind))
    · simp at cv
      exact hT x cv.1 (by grind)
  · have l := hT (kx ks (i + 1)) hx' (by grind)
    obtain ⟨k', ka', hq'⟩ := po_ka h P hi1
    obtain ⟨a', b', c', ha', hb', hc', e'⟩ := id ka'
    have ea := Sd_one ha' l
    subst ea
    rw [e'] at hq'
    rcases kno_left (x := (kx ks (i + 1) : Rat)) (b := b') (c := c') (u := ((ky ks i : Rat) + w.2 * ((kx ks (i + 1) : Rat) - (kx ks i : Rat)), w.2)) with z | z
    · rw [← e'] at z
      obtain ⟨j, hj, ej, ex⟩ := po_in h P ka' z
      have ej1 : j = i + 1 := by
        apply Classical.byContradiction
        intro hne
        rcases Nat.lt_or_gt_of_ne hne with c | c
        · have m := Rat.intCast_le_intCast.mpr (po_mono h P (show j ≤ i by omega) hi)
          grind
        · rcases pw_at (paper_RL h) P c hj with r | r
          · have r : (kx ks (i + 1) : Rat) < (kx ks j : Rat) := r
            grind
          · refine r.2.2 _ (show Sd L n true (kx ks j : Rat) (some _) from by rw [ex]; exact l) ?_
            rw [← ej]
      rw [ej1] at ej
      exact (congrArg (fun q : Kn => q.2.1) ej).symm
    · exact congrArg (fun q : Kn => q.2.1) (z _ hq')
theorem last_ex {p : Nat → Prop} : ∀ (N : Nat), (∃ i, i < N ∧ p i) → ∃ i, i < N ∧ p i ∧ ∀ j, j < N → i < j → ¬ p j := by
  intro N
  induction N with
  | zero => rintro ⟨i, hi, _⟩; omega
  | succ N ih =>
    rintro ⟨i, hi, hp⟩
    by_cases c : p N
    · exact ⟨N, by omega, c, fun j hj hn => by omega⟩
    · have hne : i ≠ N := fun e => c (e ▸ hp)
      obtain ⟨j, hj, hpj, hm⟩ := ih ⟨i, by omega, hp⟩
      refine ⟨j, by omega, hpj, fun l hl hjl => ?_⟩
      by_cases e : l = N
      · rw [e]; exact c
      · exact hm l (by omega) hjl
theorem low_bd (L : Nat → Ln) : ∀ n : Nat, ∃ z : Int, ∀ k, k < n → z < lnF (L k) := by
  intro n
  induction n with
  | zero => exact ⟨0, fun k hk => by omega⟩
  | succ n ih =>
    obtain ⟨z, hz⟩ := ih
    refine ⟨min z (lnF (L n) - 1), fun k hk => ?_⟩
    by_cases e : k = n
    · rw [e]; omega
    · have := hz k (by omega); omega
theorem po_right (h : PaperIs L n ks) (P : StP ks) {x : Rat} {w : Rat × Rat} {k : List Kn} (hs : Sd L n false x (some w)) (ka : KA L n x k) (hne : k ≠ []) : ∃ i, i < ks.length ∧ (kx ks i : Rat) = x ∧ kg ks i = true := by
  obtain ⟨a, b, c, ha, hb, hc, e⟩ := id ka
  have eb := Sd_one hb hs
  subst eb
  have m := kno_right (x := x) (a := a) (w := w) (c := c) (by rw [← e]; exact hne)
  rw [← e] at m
  obtain ⟨j, hj, ej, ex⟩ := po_in h P ka m
  exact ⟨j, hj, ex, (congrArg (fun q : Kn => q.2.2) ej).symm⟩
theorem po_covT (h : PaperIs L n ks) (P : StP ks) {x : Rat} {u : Rat × Rat} (hs : Sd L n true x (some u)) : ∃ i, i < ks.length ∧ kg ks i = true ∧ cvr ks true x i := by
  have hex : ∃ i, i < ks.length ∧ (kx ks i : Rat) < x := by
    apply Classical.byContradiction
    intro hno
    obtain ⟨z, hz⟩ := low_bd L n
    have hnk : ∀ y k, y < x → KA L n y k → k = [] := by
      intro y k hy ka
      cases k with
      | nil => rfl
      | cons q t =>
        obtain ⟨j, hj, _, ez⟩ := po_in h P ka List.mem_cons_self
        exact absurd ⟨j, hj, by rw [ez]; exact hy⟩ hno
    obtain ⟨o, ho, _⟩ := id hs
    have f1 := (lvt.mp ho.2.1).1
    have f2 := lt_cast (hz o ho.1)
    obtain ⟨o2, ho2, _⟩ := wlkL (x2 := (z : Rat)) _ x u (Nat.le_refl _) hs (fun y k _ hy ka => hnk y k hy ka) (z : Rat) (by grind) (by grind)
    have f3 := lt_cast (hz o2 ho2.1)
    have f4 := ho2.2.1.1
    unfold bey at f4
    simp at f4
    grind
  obtain ⟨i, hi, hp, hm⟩ := last_ex _ hex
  have hn1 : i + 1 < ks.length → x ≤ (kx ks (i + 1) : Rat) := fun q => by
    have := hm (i + 1) q (by omega)
    grind
  have s1 := wlkL (x2 := (kx ks i : Rat)) _ x u (Nat.le_refl _) hs (fun z k z1 z2 ka => po_no h P hi z1 (fun q => by have := hn1 q; grind) ka) (kx ks i : Rat) hp (by grind)
  obtain ⟨k, ka, hq⟩ := po_ka h P hi
  obtain ⟨j, hj, ex, gj⟩ := po_right h P s1 ka (fun e => by rw [e] at hq; cases hq)
  have eji : j = i := by
    apply Classical.byContradiction
    intro hne
    rcases Nat.lt_or_gt_of_ne hne with c | c
    · rcases pw_at (paper_RL h) P c hi with r | r
      · have r : (kx ks j : Rat) < (kx ks i : Rat) := r
        grind
      · have r2 : kg ks j = false := r.2.1
        rw [gj] at r2; cases r2
    · exact hm j hj c (by rw [ex]; exact hp)
  rw [eji] at gj
  refine ⟨i, hi, gj, ?_⟩
  have := hn1 (po_next h P hi gj).1
  unfold cvr bey
  simp
  exact ⟨hp, by grind⟩
theorem po_cov (h : PaperIs L n ks) (P : StP ks) {sd : Bool} {x : Rat} {u : Rat × Rat} (hs : Sd L n sd x (some u)) : ∃ i, i < ks.length ∧ kg ks i = true ∧ cvr ks sd x i := by
  cases sd
  · obtain ⟨k, ka⟩ := KA_ex L n x
    by_cases hne : k = []
    · obtain ⟨i, hi, gi, cv⟩ := po_covT h P ((no_eq (fun k' ka' => by rw [KA_one ka' ka]; exact hne)).mpr hs)
      refine ⟨i, hi, gi, ?_⟩
      have nx := po_next h P hi gi
      have hd : (kx ks (i + 1) : Rat) ≠ x := by
        intro e
        obtain ⟨k', ka', hq'⟩ := po_ka h P nx.1
        rw [e] at ka'
        rw [KA_one ka' ka, hne] at hq'
        cases hq'
      unfold cvr bey at *
      simp at *
      grind
    · obtain ⟨i, hi, ex, gi⟩ := po_right h P hs ka hne
      refine ⟨i, hi, gi, ?_⟩
      have nx := lt_cast (po_next h P hi gi).2.1
      unfold cvr bey
      simp
      grind
  · exact po_covT h P hs
end OW
