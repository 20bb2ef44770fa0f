/-! LINES AND WHAT IS LOWEST: pure -/
abbrev Ln : Type := Int × Int × Int × Int × Int
def lnF (l : Ln) : Int := l.1
def lnT (l : Ln) : Int := l.2.1
def lnA (l : Ln) : Int := l.2.2.1
def lnB (l : Ln) : Int := l.2.2.2.1
def lnC (l : Ln) : Int := l.2.2.2.2
def ic (l : Ln) : Rat := (lnA l : Rat) / (lnC l : Rat)
def sl (l : Ln) : Rat := (lnB l : Rat) / (lnC l : Rat)
def vl (l : Ln) (x : Rat) : Rat := ic l + sl l * x
theorem vl_mv (l : Ln) (x y : Rat) : vl l y = vl l x + sl l * (y - x) := by unfold vl; grind
/-- a cut of the numbers: just ahead of x (sd), or just behind it; bey: a lies ahead of the cut -/
def bey (sd : Bool) (x a : Rat) : Prop := if sd = true then a < x else a ≤ x
theorem bey_mono {sd : Bool} {x a b : Rat} (h : a ≤ b) (hb : bey sd x b) : bey sd x a := by
  unfold bey at *
  split at hb <;> simp_all <;> grind
/-- o lies lower than m at the cut, or as low and is the elder -/
def bt (L : Nat → Ln) (sd : Bool) (x : Rat) (o m : Nat) : Prop :=
  vl (L o) x < vl (L m) x ∨ (vl (L o) x = vl (L m) x ∧ ((sd = true ∧ sl (L m) < sl (L o)) ∨ (sd = false ∧ sl (L o) < sl (L m)) ∨ (sl (L o) = sl (L m) ∧ o < m)))
theorem bt_tot {L : Nat → Ln} {sd : Bool} {x : Rat} {o m : Nat} (h : o ≠ m) : bt L sd x o m ∨ bt L sd x m o := by
  unfold bt
  have h1 := Nat.lt_or_gt_of_ne h
  cases sd <;> grind
theorem bt_as {L : Nat → Ln} {sd : Bool} {x : Rat} {o m : Nat} (h : bt L sd x o m) : ¬ bt L sd x m o := by
  unfold bt at *
  cases sd <;> grind
theorem bt_tr {L : Nat → Ln} {sd : Bool} {x : Rat} {a b c : Nat} (h : bt L sd x a b) (h2 : bt L sd x b c) : bt L sd x a c := by
  unfold bt at *
  cases sd <;> grind
/-- the line goes over the cut -/
def lv (L : Nat → Ln) (sd : Bool) (x : Rat) (k : Nat) : Prop := bey sd x (lnF (L k)) ∧ ¬ bey sd x (lnT (L k))
/-- of the lines below s that go over the cut the lowest -/
def Low (L : Nat → Ln) (s : Nat) (sd : Bool) (x : Rat) (o : Nat) : Prop := o < s ∧ lv L sd x o ∧ ∀ m, m < s → lv L sd x m → m ≠ o → bt L sd x o m
theorem Low_one {L : Nat → Ln} {s : Nat} {sd : Bool} {x : Rat} {o p : Nat} (h : Low L s sd x o) (h2 : Low L s sd x p) : o = p := by
  apply Classical.byContradiction
  intro hn
  exact bt_as (h.2.2 p h2.1 h2.2.1 (Ne.symm hn)) (h2.2.2 o h.1 h.2.1 hn)
theorem Low_no {L : Nat → Ln} {s : Nat} {sd : Bool} {x : Rat} {o : Nat} (h : ¬ lv L sd x s) : Low L (s + 1) sd x o ↔ Low L s sd x o := by
  constructor
  · intro q
    have : o ≠ s := fun e => h (e ▸ q.2.1)
    exact ⟨by have := q.1; omega, q.2.1, fun m hm => q.2.2 m (by omega)⟩
  · intro q
    refine ⟨by have := q.1; omega, q.2.1, fun m hm hv hne => q.2.2 m ?_ hv hne⟩
    have : m ≠ s := fun e => h (e ▸ hv)
    omega
theorem Low_two {L : Nat → Ln} {s : Nat} {sd : Bool} {x : Rat} {o p : Nat} (h : lv L sd x s) (hp : Low L s sd x p) : Low L (s + 1) sd x o ↔ (o = s ∧ bt L sd x s p) ∨ (o = p ∧ bt L sd x p s) := by
  have hps : p ≠ s := by have := hp.1; omega
  constructor
  · intro q
    by_cases hos : o = s
    · subst hos
      exact Or.inl ⟨rfl, q.2.2 p (by have := hp.1; omega) hp.2.1 hps⟩
    · have hq : Low L s sd x o := ⟨by have := q.1; omega, q.2.1, fun m hm => q.2.2 m (by omega)⟩
      have := Low_one hq hp
      subst this
      exact Or.inr ⟨rfl, q.2.2 s (by omega) h (Ne.symm hos)⟩
  · rintro (⟨rfl, hb⟩ | ⟨rfl, hb⟩)
    · refine ⟨by omega, h, fun m hm hv hne => ?_⟩
      by_cases hmp : m = p
      · subst hmp; exact hb
      · exact bt_tr hb (hp.2.2 m (by omega) hv hmp)
    · refine ⟨by have := hp.1; omega, hp.2.1, fun m hm hv hne => ?_⟩
      by_cases hms : m = s
      · subst hms; exact hb
      · exact hp.2.2 m (by omega) hv hne
theorem Low_first {L : Nat → Ln} {s : Nat} {sd : Bool} {x : Rat} {o : Nat} (h : lv L sd x s) (hn : ∀ m, m < s → ¬ lv L sd x m) : Low L (s + 1) sd x o ↔ o = s := by
  constructor
  · intro q
    apply Classical.byContradiction
    intro hos
    exact hn o (by have := q.1; omega) q.2.1
  · rintro rfl
    exact ⟨by omega, h, fun m hm hv hne => absurd hv (hn m (by omega))⟩
theorem Low_ex {L : Nat → Ln} {sd : Bool} {x : Rat} : ∀ {s k : Nat}, k < s → lv L sd x k → ∃ o, Low L s sd x o := by
  intro s
  induction s with
  | zero => intro k h; omega
  | succ s ih =>
    intro k hk hv
    by_cases hs : lv L sd x s
    · by_cases he : ∃ p, Low L s sd x p
      · obtain ⟨p, hp⟩ := he
        rcases bt_tot (L := L) (sd := sd) (x := x) (show s ≠ p by have := hp.1; omega) with hb | hb
        · exact ⟨s, (Low_two hs hp).mpr (Or.inl ⟨rfl, hb⟩)⟩
        · exact ⟨p, (Low_two hs hp).mpr (Or.inr ⟨rfl, hb⟩)⟩
      · exact ⟨s, (Low_first hs (fun m hm hvm => he (ih hm hvm))).mpr rfl⟩
    · have : k ≠ s := fun e => hs (e ▸ hv)
      obtain ⟨o, ho⟩ := ih (show k < s by omega) hv
      exact ⟨o, (Low_no hs).mpr ho⟩
/-! pieces: from, to, of which line; the row is held the last one first -/
abbrev Pie : Type := Rat × Rat × Nat
def Pk (sd : Bool) (x : Rat) (ps : List Pie) (o : Nat) : Prop := ∃ q ∈ ps, q.2.2 = o ∧ bey sd x q.1 ∧ ¬ bey sd x q.2.1
def addN (acc : List Pie) (a b : Rat) (o : Nat) : List Pie := if b ≤ a then acc else match acc with
  | [] => [(a, b, o)]
  | q :: t => if q.2.2 = o ∧ q.2.1 = a then (q.1, b, o) :: t else (a, b, o) :: q :: t
def PieOk (acc : List Pie) : Prop := (∀ q ∈ acc, q.1 < q.2.1) ∧ acc.Pairwise (fun q r => r.2.1 ≤ q.1) ∧ acc.Pairwise (fun q r => r.2.1 = q.1 → r.2.2 ≠ q.2.2)
theorem addN_P {sd : Bool} {x : Rat} {acc : List Pie} {a b : Rat} {o o' : Nat} (hv : ∀ q ∈ acc, q.1 < q.2.1) : Pk sd x (addN acc a b o) o' ↔ Pk sd x acc o' ∨ (o' = o ∧ bey sd x a ∧ ¬ bey sd x b) := by
  unfold addN
  split
  · rename_i h
    constructor
    · exact Or.inl
    · rintro (h1 | ⟨-, h2, h3⟩)
      · exact h1
      · exact absurd (bey_mono h h2) h3
  · rename_i h
    cases acc with
    | nil =>
      simp only [Pk, List.mem_singleton]
      constructor
      · rintro ⟨q, rfl, h1, h2, h3⟩; exact Or.inr ⟨h1.symm, h2, h3⟩
      · rintro (⟨q, hq, -⟩ | ⟨rfl, h2, h3⟩)
        · cases hq
        · exact ⟨_, rfl, rfl, h2, h3⟩
    | cons q t =>
      have hq := hv q List.mem_cons_self
      show Pk sd x (if q.2.2 = o ∧ q.2.1 = a then (q.1, b, o) :: t else (a, b, o) :: q :: t) o' ↔ _
      split
      · rename_i he
        obtain ⟨e1, e2⟩ := he
        simp only [Pk, List.mem_cons]
        constructor
        · rintro ⟨r, rfl | hr, h1, h2, h3⟩
          · by_cases ha : bey sd x a
            · exact Or.inr ⟨h1.symm, ha, h3⟩
            · exact Or.inl ⟨q, Or.inl rfl, e1.trans h1, h2, by rw [e2]; exact ha⟩
          · exact Or.inl ⟨r, Or.inr hr, h1, h2, h3⟩
        · rintro (⟨r, rfl | hr, h1, h2, h3⟩ | ⟨h1, h2, h3⟩)
          · refine ⟨(r.1, b, o), Or.inl rfl, e1.symm.trans h1, h2, fun hb => h3 (bey_mono ?_ hb)⟩
            grind
          · exact ⟨r, Or.inr hr, h1, h2, h3⟩
          · refine ⟨(q.1, b, o), Or.inl rfl, h1.symm, bey_mono ?_ h2, h3⟩
            grind
      · simp only [Pk, List.mem_cons]
        constructor
        · rintro ⟨r, rfl | hr, h1, h2, h3⟩
          · exact Or.inr ⟨h1.symm, h2, h3⟩
          · exact Or.inl ⟨r, hr, h1, h2, h3⟩
        · rintro (⟨r, hr, h1, h2, h3⟩ | ⟨h1, h2, h3⟩)
          · exact ⟨r, Or.inr hr, h1, h2, h3⟩
          · exact ⟨(a, b, o), Or.inl rfl, h1.symm, h2, h3⟩
theorem addN_ok {acc : List Pie} {a b : Rat} {o : Nat} (hv : PieOk acc) (he : ∀ q ∈ acc, q.2.1 ≤ a) : PieOk (addN acc a b o) ∧ ∀ q ∈ addN acc a b o, q.2.1 ≤ a ∨ q.2.1 = b ∧ a < b := by
  unfold addN
  split
  · exact ⟨hv, fun q hq => Or.inl (he q hq)⟩
  · rename_i h
    have hab : a < b := by grind
    cases acc with
    | nil => exact ⟨⟨fun q hq => by rw [List.mem_singleton.mp hq]; exact hab, List.pairwise_singleton _ _, List.pairwise_singleton _ _⟩, fun q hq => by rw [List.mem_singleton.mp hq]; exact Or.inr ⟨rfl, hab⟩⟩
    | cons q t =>
      obtain ⟨v1, v2, v3⟩ := hv
      have hq := v1 q List.mem_cons_self
      rw [List.pairwise_cons] at v2 v3
      show PieOk (if q.2.2 = o ∧ q.2.1 = a then (q.1, b, o) :: t else (a, b, o) :: q :: t) ∧ ∀ r ∈ (if q.2.2 = o ∧ q.2.1 = a then (q.1, b, o) :: t else (a, b, o) :: q :: t), _
      split
      · rename_i hc
        refine ⟨⟨fun r hr => ?_, List.pairwise_cons.mpr ⟨v2.1, v2.2⟩, List.pairwise_cons.mpr ⟨fun r hr h1 => ?_, v3.2⟩⟩, fun r hr => ?_⟩
        · rcases List.mem_cons.mp hr with rfl | hr
          · show q.1 < b; grind
          · exact v1 r (List.mem_cons_of_mem _ hr)
        · have := v3.1 r hr h1
          rw [hc.1] at this
          exact this
        · rcases List.mem_cons.mp hr with rfl | hr
          · exact Or.inr ⟨rfl, hab⟩
          · exact Or.inl (he r (List.mem_cons_of_mem _ hr))
      · rename_i hc
        refine ⟨⟨fun r hr => ?_, List.pairwise_cons.mpr ⟨fun r hr => he r hr, List.pairwise_cons.mpr v2⟩, List.pairwise_cons.mpr ⟨fun r hr h1 h2 => ?_, List.pairwise_cons.mpr v3⟩⟩, fun r hr => ?_⟩
        · rcases List.mem_cons.mp hr with rfl | hr
          · exact hab
          · exact v1 r hr
        · rcases List.mem_cons.mp hr with rfl | hr
          · exact hc ⟨h2, h1⟩
          · have w1 := v2.1 r hr
            have w2 := v1 q List.mem_cons_self
            have w3 := he q List.mem_cons_self
            have h1 : r.2.1 = a := h1
            grind
        · rcases List.mem_cons.mp hr with rfl | hr
          · exact Or.inr ⟨rfl, hab⟩
          · exact Or.inl (he r hr)
