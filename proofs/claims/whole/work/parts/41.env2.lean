/-! a line meets another one over a piece -/
theorem rA {d S u w : Rat} (h1 : 0 ≤ d - S * u) (h2 : 0 ≤ d + S * w) (hu : 0 ≤ u) (hw : 0 ≤ w) : 0 ≤ d := by
  rcases (show 0 ≤ S ∨ S ≤ 0 by grind) with h | h
  · have := Rat.mul_nonneg h hu; grind
  · have := Rat.mul_nonneg (show 0 ≤ -S by grind) hw; grind
theorem rB {S u : Rat} (h1 : 0 ≤ S * u) (hu : 0 < u) : 0 ≤ S := by
  apply Classical.byContradiction
  intro h
  have := Rat.mul_pos (show 0 < -S by grind) hu
  grind
theorem rC {S u : Rat} (h1 : 0 < S * u) (hu : 0 < u) : 0 < S := by
  apply Classical.byContradiction
  intro h
  have := Rat.mul_nonneg (show 0 ≤ -S by grind) (show 0 ≤ u by grind)
  grind
/-- the difference of two lines, from x on -/
theorem vd (l o : Ln) (x y : Rat) : vl l y - vl o y = (vl l x - vl o x) + (sl l - sl o) * (y - x) := by
  rw [vl_mv l x y, vl_mv o x y]; grind
theorem bey_lt {sd : Bool} {x a b : Rat} (h1 : bey sd x a) (h2 : ¬ bey sd x b) : a ≤ x ∧ x ≤ b ∧ a < b ∧ (sd = true → a < x) ∧ (sd = false → x < b) := by
  unfold bey at *
  cases sd <;> simp at * <;> grind
theorem mt1 {L : Nat → Ln} {sd : Bool} {x p1 p2 : Rat} {o l : Nat} (h1 : bey sd x p1) (h2 : ¬ bey sd x p2) (a1 : vl (L o) p1 ≤ vl (L l) p1) (a2 : vl (L o) p2 ≤ vl (L l) p2) (hol : o < l) : bt L sd x o l := by
  obtain ⟨b1, b2, b3, b4, b5⟩ := bey_lt h1 h2
  have e1 := vd (L l) (L o) x p1
  have e2 := vd (L l) (L o) x p2
  generalize hd : vl (L l) x - vl (L o) x = d at e1 e2
  generalize hS : sl (L l) - sl (L o) = S at e1 e2
  have hd0 : 0 ≤ d := rA (u := x - p1) (w := p2 - x) (S := S) (by grind) (by grind) (by grind) (by grind)
  unfold bt
  rcases (show 0 < d ∨ d = 0 by grind) with h | h
  · left; grind
  · right
    refine ⟨by grind, ?_⟩
    cases sd with
    | true =>
      have := rB (S := -S) (u := x - p1) (by grind) (by have := b4 rfl; grind)
      rcases (show S < 0 ∨ S = 0 by grind) with q | q
      · exact Or.inl ⟨rfl, by grind⟩
      · exact Or.inr (Or.inr ⟨by grind, hol⟩)
    | false =>
      have := rB (S := S) (u := p2 - x) (by grind) (by have := b5 rfl; grind)
      rcases (show 0 < S ∨ S = 0 by grind) with q | q
      · exact Or.inr (Or.inl ⟨rfl, by grind⟩)
      · exact Or.inr (Or.inr ⟨by grind, hol⟩)
theorem mt2 {L : Nat → Ln} {sd : Bool} {x p1 p2 : Rat} {o l : Nat} (h1 : bey sd x p1) (h2 : ¬ bey sd x p2) (a1 : vl (L l) p1 ≤ vl (L o) p1) (a2 : vl (L l) p2 ≤ vl (L o) p2) (hn : ¬ (vl (L o) p1 ≤ vl (L l) p1 ∧ vl (L o) p2 ≤ vl (L l) p2)) : bt L sd x l o := by
  obtain ⟨b1, b2, b3, b4, b5⟩ := bey_lt h1 h2
  have e1 := vd (L o) (L l) x p1
  have e2 := vd (L o) (L l) x p2
  generalize hd : vl (L o) x - vl (L l) x = d at e1 e2
  generalize hS : sl (L o) - sl (L l) = S at e1 e2
  have hd0 : 0 ≤ d := rA (u := x - p1) (w := p2 - x) (S := S) (by grind) (by grind) (by grind) (by grind)
  unfold bt
  rcases (show 0 < d ∨ d = 0 by grind) with h | h
  · left; grind
  · right
    refine ⟨by grind, ?_⟩
    have hS0 : S ≠ 0 := fun q => hn (by rw [q] at e1 e2; grind)
    cases sd with
    | true =>
      have := rB (S := -S) (u := x - p1) (by grind) (by have := b4 rfl; grind)
      exact Or.inl ⟨rfl, by grind⟩
    | false =>
      have := rB (S := S) (u := p2 - x) (by grind) (by have := b5 rfl; grind)
      exact Or.inr (Or.inl ⟨rfl, by grind⟩)
/-- where two lines cross -/
def cr (L : Nat → Ln) (l o : Nat) : Rat := (ic (L o) - ic (L l)) / (sl (L l) - sl (L o))
theorem cr_at {L : Nat → Ln} {l o : Nat} (h : sl (L l) - sl (L o) ≠ 0) : vl (L l) (cr L l o) - vl (L o) (cr L l o) = 0 := by
  unfold cr vl
  generalize sl (L l) = s at *
  generalize sl (L o) = t at *
  generalize ic (L l) = a at *
  generalize ic (L o) = b at *
  have e : (b - a) / (s - t) * (s - t) = b - a := Rat.div_mul_cancel h
  generalize (b - a) / (s - t) = z at *
  grind
theorem cr_in {L : Nat → Ln} {l o : Nat} {p1 p2 : Rat} (h : p1 < p2) (a1 : vl (L l) p1 < vl (L o) p1) (a2 : vl (L o) p2 < vl (L l) p2) : p1 < cr L l o ∧ cr L l o < p2 ∧ 0 < sl (L l) - sl (L o) ∧ vl (L l) (cr L l o) = vl (L o) (cr L l o) := by
  have e := vd (L l) (L o) p1 p2
  have hS : 0 < sl (L l) - sl (L o) := rC (u := p2 - p1) (by grind) (by grind)
  have ec := cr_at (L := L) (l := l) (o := o) (by grind)
  have e1 := vd (L l) (L o) (cr L l o) p1
  have e2 := vd (L l) (L o) (cr L l o) p2
  generalize cr L l o = c at *
  generalize sl (L l) - sl (L o) = S at *
  refine ⟨?_, ?_, hS, by grind⟩
  · apply Classical.byContradiction
    intro hn
    have := Rat.mul_nonneg (show 0 ≤ S by grind) (show 0 ≤ p1 - c by grind)
    grind
  · apply Classical.byContradiction
    intro hn
    have := Rat.mul_nonneg (show 0 ≤ S by grind) (show 0 ≤ c - p2 by grind)
    grind
theorem cr_sy (L : Nat → Ln) (l o : Nat) : cr L l o = cr L o l := by
  unfold cr
  by_cases h : sl (L l) - sl (L o) = 0
  · have h2 : sl (L o) - sl (L l) = 0 := by grind
    rw [h, h2]; grind
  · have h2 : sl (L o) - sl (L l) ≠ 0 := by grind
    generalize sl (L l) = s at *
    generalize sl (L o) = t at *
    generalize ic (L l) = a at *
    generalize ic (L o) = b at *
    have e1 : (b - a) / (s - t) * (s - t) = b - a := Rat.div_mul_cancel h
    have e2 : (a - b) / (t - s) * (t - s) = a - b := Rat.div_mul_cancel h2
    generalize (b - a) / (s - t) = z at *
    generalize (a - b) / (t - s) = w at *
    have e3 : (z - w) * (s - t) = 0 := by grind
    rcases Rat.mul_eq_zero.mp e3 with q | q
    · grind
    · exact absurd q h
/-- ahead of the crossing the one that comes from below is lower, behind it the other one -/
theorem mt3 {L : Nat → Ln} {sd : Bool} {x : Rat} {o l : Nat} {c : Rat} (hS : 0 < sl (L l) - sl (L o)) (hc : vl (L l) c = vl (L o) c) : (¬ bey sd x c → bt L sd x l o) ∧ (bey sd x c → bt L sd x o l) := by
  have e := vd (L l) (L o) c x
  generalize hs : sl (L l) - sl (L o) = S at *
  unfold bey bt
  constructor
  · intro h
    cases sd with
    | true =>
      simp at h
      rcases (show x < c ∨ x = c by grind) with q | q
      · have := Rat.mul_pos hS (show 0 < c - x by grind)
        left; grind
      · right; subst q; exact ⟨by grind, Or.inl ⟨rfl, by grind⟩⟩
    | false =>
      simp at h
      have := Rat.mul_pos hS (show 0 < c - x by grind)
      left; grind
  · intro h
    cases sd with
    | true =>
      simp at h
      have := Rat.mul_pos hS (show 0 < x - c by grind)
      left; grind
    | false =>
      simp at h
      rcases (show c < x ∨ x = c by grind) with q | q
      · have := Rat.mul_pos hS (show 0 < x - c by grind)
        left; grind
      · right; subst q; exact ⟨by grind, Or.inr (Or.inl ⟨rfl, by grind⟩)⟩
def meetN (L : Nat → Ln) (l o : Nat) (p1 p2 : Rat) (acc : List Pie) : List Pie :=
  if p2 ≤ p1 then acc
  else if vl (L o) p1 ≤ vl (L l) p1 ∧ vl (L o) p2 ≤ vl (L l) p2 then addN acc p1 p2 o
  else if vl (L l) p1 ≤ vl (L o) p1 ∧ vl (L l) p2 ≤ vl (L o) p2 then addN acc p1 p2 l
  else addN (addN acc p1 (cr L l o) (if vl (L l) p1 < vl (L o) p1 then l else o)) (cr L l o) p2 (if vl (L l) p1 < vl (L o) p1 then o else l)
theorem addN_ok2 {acc : List Pie} {a b : Rat} {o : Nat} (hv : PieOk acc) (he : ∀ q ∈ acc, q.2.1 ≤ a) (hab : a ≤ b) : PieOk (addN acc a b o) ∧ ∀ q ∈ addN acc a b o, q.2.1 ≤ b := by
  obtain ⟨h1, h2⟩ := addN_ok (o := o) (b := b) hv he
  refine ⟨h1, fun q hq => ?_⟩
  rcases h2 q hq with h | h <;> grind
theorem meetN_ok {L : Nat → Ln} {l o : Nat} {p1 p2 : Rat} {acc : List Pie} (hv : PieOk acc) (he : ∀ q ∈ acc, q.2.1 ≤ p1) (h12 : p1 ≤ p2) : PieOk (meetN L l o p1 p2 acc) ∧ ∀ q ∈ meetN L l o p1 p2 acc, q.2.1 ≤ p2 := by
  unfold meetN
  split
  · exact ⟨hv, fun q hq => by have := he q hq; grind⟩
  · rename_i h
    split
    · exact addN_ok2 hv he h12
    · split
      · exact addN_ok2 hv he h12
      · rename_i g1 g2
        have hc : p1 < cr L l o ∧ cr L l o < p2 := by
          rcases (show vl (L l) p1 < vl (L o) p1 ∧ vl (L o) p2 < vl (L l) p2 ∨ vl (L o) p1 < vl (L l) p1 ∧ vl (L l) p2 < vl (L o) p2 by grind) with q | q
          · obtain ⟨c1, c2, -⟩ := cr_in (L := L) (l := l) (o := o) (p1 := p1) (p2 := p2) (by grind) q.1 q.2
            exact ⟨c1, c2⟩
          · obtain ⟨c1, c2, -⟩ := cr_in (L := L) (l := o) (o := l) (p1 := p1) (p2 := p2) (by grind) q.1 q.2
            rw [cr_sy]
            exact ⟨c1, c2⟩
        obtain ⟨k1, k2⟩ := addN_ok2 (o := if vl (L l) p1 < vl (L o) p1 then l else o) (b := cr L l o) hv he (by grind)
        exact addN_ok2 k1 k2 (by grind)
theorem meetN_P {L : Nat → Ln} {sd : Bool} {x : Rat} {l o o' : Nat} {p1 p2 : Rat} {acc : List Pie} (hv : PieOk acc) (he : ∀ q ∈ acc, q.2.1 ≤ p1) (hol : o < l) : Pk sd x (meetN L l o p1 p2 acc) o' ↔ Pk sd x acc o' ∨ (bey sd x p1 ∧ ¬ bey sd x p2 ∧ ((o' = l ∧ bt L sd x l o) ∨ (o' = o ∧ bt L sd x o l))) := by
  unfold meetN
  split
  · rename_i h
    constructor
    · exact Or.inl
    · rintro (h1 | ⟨h2, h3, -⟩)
      · exact h1
      · exact absurd (bey_mono h h2) h3
  · rename_i h
    split
    · rename_i g
      rw [addN_P hv.1]
      constructor
      · rintro (h1 | ⟨h1, h2, h3⟩)
        · exact Or.inl h1
        · exact Or.inr ⟨h2, h3, Or.inr ⟨h1, mt1 h2 h3 g.1 g.2 hol⟩⟩
      · rintro (h1 | ⟨h2, h3, ⟨h4, h5⟩ | ⟨h4, h5⟩⟩)
        · exact Or.inl h1
        · exact absurd h5 (bt_as (mt1 h2 h3 g.1 g.2 hol))
        · exact Or.inr ⟨h4, h2, h3⟩
    · rename_i g
      split
      · rename_i g2
        rw [addN_P hv.1]
        constructor
        · rintro (h1 | ⟨h1, h2, h3⟩)
          · exact Or.inl h1
          · exact Or.inr ⟨h2, h3, Or.inl ⟨h1, mt2 h2 h3 g2.1 g2.2 g⟩⟩
        · rintro (h1 | ⟨h2, h3, ⟨h4, h5⟩ | ⟨h4, h5⟩⟩)
          · exact Or.inl h1
          · exact Or.inr ⟨h4, h2, h3⟩
          · exact absurd h5 (bt_as (mt2 h2 h3 g2.1 g2.2 g))
      · rename_i g2
        rcases (show vl (L l) p1 < vl (L o) p1 ∧ vl (L o) p2 < vl (L l) p2 ∨ vl (L o) p1 < vl (L l) p1 ∧ vl (L l) p2 < vl (L o) p2 by grind) with q | q
        · obtain ⟨c1, c2, c3, c4⟩ := cr_in (L := L) (l := l) (o := o) (p1 := p1) (p2 := p2) (by grind) q.1 q.2
          obtain ⟨m1, m2⟩ := mt3 (sd := sd) (x := x) c3 c4
          rw [if_pos q.1, if_pos q.1]
          have k1 := (addN_ok2 (o := l) (b := cr L l o) hv he (by grind)).1
          rw [addN_P k1.1, addN_P hv.1]
          by_cases hc : bey sd x (cr L l o)
          · have n1 := m2 hc
            have n2 := bt_as n1
            have n3 : bey sd x p1 := bey_mono (by grind) hc
            constructor
            · rintro ((h1 | ⟨h1, h2, h3⟩) | ⟨h1, h2, h3⟩)
              · exact Or.inl h1
              · exact absurd hc h3
              · exact Or.inr ⟨n3, h3, Or.inr ⟨h1, n1⟩⟩
            · rintro (h1 | ⟨h2, h3, ⟨h4, h5⟩ | ⟨h4, h5⟩⟩)
              · exact Or.inl (Or.inl h1)
              · exact absurd h5 n2
              · exact Or.inr ⟨h4, hc, h3⟩
          · have n1 := m1 hc
            have n2 := bt_as n1
            have n3 : ¬ bey sd x p2 := fun z => hc (bey_mono (by grind) z)
            constructor
            · rintro ((h1 | ⟨h1, h2, h3⟩) | ⟨h1, h2, h3⟩)
              · exact Or.inl h1
              · exact Or.inr ⟨h2, n3, Or.inl ⟨h1, n1⟩⟩
              · exact absurd h2 hc
            · rintro (h1 | ⟨h2, h3, ⟨h4, h5⟩ | ⟨h4, h5⟩⟩)
              · exact Or.inl (Or.inl h1)
              · exact Or.inl (Or.inr ⟨h4, h2, hc⟩)
              · exact absurd h5 n2
        · obtain ⟨c1, c2, c3, c4⟩ := cr_in (L := L) (l := o) (o := l) (p1 := p1) (p2 := p2) (by grind) q.1 q.2
          rw [← cr_sy L l o] at c1 c2 c4
          obtain ⟨m1, m2⟩ := mt3 (sd := sd) (x := x) c3 c4
          have qn : ¬ vl (L l) p1 < vl (L o) p1 := by grind
          rw [if_neg qn, if_neg qn]
          have k1 := (addN_ok2 (o := o) (b := cr L l o) hv he (by grind)).1
          rw [addN_P k1.1, addN_P hv.1]
          by_cases hc : bey sd x (cr L l o)
          · have n1 := m2 hc
            have n2 := bt_as n1
            have n3 : bey sd x p1 := bey_mono (by grind) hc
            constructor
            · rintro ((h1 | ⟨h1, h2, h3⟩) | ⟨h1, h2, h3⟩)
              · exact Or.inl h1
              · exact absurd hc h3
              · exact Or.inr ⟨n3, h3, Or.inl ⟨h1, n1⟩⟩
            · rintro (h1 | ⟨h2, h3, ⟨h4, h5⟩ | ⟨h4, h5⟩⟩)
              · exact Or.inl (Or.inl h1)
              · exact Or.inr ⟨h4, hc, h3⟩
              · exact absurd h5 n2
          · have n1 := m1 hc
            have n2 := bt_as n1
            have n3 : ¬ bey sd x p2 := fun z => hc (bey_mono (by grind) z)
            constructor
            · rintro ((h1 | ⟨h1, h2, h3⟩) | ⟨h1, h2, h3⟩)
              · exact Or.inl h1
              · exact Or.inr ⟨h2, n3, Or.inr ⟨h1, n1⟩⟩
              · exact absurd h2 hc
            · rintro (h1 | ⟨h2, h3, ⟨h4, h5⟩ | ⟨h4, h5⟩⟩)
              · exact Or.inl (Or.inl h1)
              · exact absurd h5 n2
              · exact Or.inl (Or.inr ⟨h4, h2, hc⟩)
