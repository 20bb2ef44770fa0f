/-! HULLS, pure: a stack of points, each step adds one -/
abbrev Pt2 : Type := Int × Int
def crz (a b p : Pt2) : Int := (b.1 - a.1) * (p.2 - a.2) - (b.2 - a.2) * (p.1 - a.1)
theorem crs_id (a b c q : Pt2) : crz a b q * (c.1 - b.1) = crz a b c * (q.1 - b.1) + crz b c q * (b.1 - a.1) := by
  unfold crz; grind
theorem crs_id2 (v w q p : Pt2) : crz v w p * (q.1 - v.1) = crz v w q * (p.1 - v.1) + crz v q p * (w.1 - v.1) := by
  unfold crz; grind
theorem crs_as (v w p : Pt2) : crz v p w = -crz v w p := by
  unfold crz; grind
theorem crs_up (a b t q : Pt2) (e : q.1 = t.1) : crz a b q = crz a b t + (b.1 - a.1) * (q.2 - t.2) := by
  unfold crz; rw [e]; grind
theorem crs_self (a b : Pt2) : crz a b b = 0 := by
  unfold crz; grind
theorem pos_of_mul {x d : Int} (hd : 0 < d) (h : 0 < x * d) : 0 < x := by
  by_cases c : 0 < x
  · exact c
  · have := Int.mul_nonneg (show 0 ≤ -x by omega) (show 0 ≤ d by omega)
    rw [Int.neg_mul] at this
    omega
theorem nn_of_mul {x d : Int} (hd : 0 < d) (h : 0 ≤ x * d) : 0 ≤ x := by
  by_cases c : 0 ≤ x
  · exact c
  · have := Int.mul_pos (show 0 < -x by omega) hd
    rw [Int.neg_mul] at this
    omega
def popN (q : Pt2) : List Pt2 → List Pt2
  | b :: a :: r => if 0 < crz a b q then b :: a :: r else popN q (a :: r)
  | l => l
def stepH (q : Pt2) (st : List Pt2) : List Pt2 := match st with
  | [] => [q]
  | b :: r => if b.1 = q.1 then (if q.2 < b.2 then q :: popN q r else b :: r) else q :: popN q (b :: r)
def ChT (P : Pt2 → Prop) : List Pt2 → Prop
  | [] => ∀ p, ¬ P p
  | [v] => P v ∧ ∀ p, P p → v.1 ≤ p.1 ∧ (p.1 = v.1 → v.2 ≤ p.2)
  | b :: a :: r => P b ∧ a.1 < b.1 ∧ (∀ p, P p → 0 ≤ crz a b p) ∧ (∀ z, r.head? = some z → 0 < crz z a b) ∧ ChT P (a :: r)
def TopT (P : Pt2 → Prop) (st : List Pt2) : Prop := ∀ b, st.head? = some b → ∀ p, P p → p.1 ≤ b.1 ∧ (p.1 = b.1 → b.2 ≤ p.2)
def PlusP (P : Pt2 → Prop) (q p : Pt2) : Prop := P p ∨ p = q
section HU
variable {P : Pt2 → Prop} {q : Pt2}
theorem ChT.hd {b : Pt2} {r : List Pt2} (h : ChT P (b :: r)) : P b := by
  cases r with
  | nil => exact h.1
  | cons a r => exact h.1
theorem ChT_add {t : Pt2} (ht : P t) (e : q.1 = t.1) (le : t.2 ≤ q.2) : ∀ st : List Pt2, st ≠ [] → ChT P st → ChT (PlusP P q) st := by
  intro st
  induction st with
  | nil => intro ne _; exact absurd rfl ne
  | cons b r ih =>
    intro _ h
    cases r with
    | nil =>
      refine ⟨Or.inl h.1, fun p hp => ?_⟩
      rcases hp with hp | hp
      · exact h.2 p hp
      · have := h.2 t ht
        rw [hp]
        exact ⟨by omega, fun z => by have := this.2 (by omega); omega⟩
    | cons a r =>
      obtain ⟨h1, h2, h3, h4, h5⟩ := h
      refine ⟨Or.inl h1, h2, fun p hp => ?_, h4, ih (by intro z; cases z) h5⟩
      rcases hp with hp | hp
      · exact h3 p hp
      · rw [hp, crs_up a b t q e]
        have := h3 t ht
        have := Int.mul_nonneg (show 0 ≤ b.1 - a.1 by omega) (show 0 ≤ q.2 - t.2 by omega)
        omega
theorem ChT_push : ∀ (t : List Pt2) (v : Pt2), ChT P (v :: t) → v.1 < q.1 → (∀ a, t.head? = some a → 0 < crz a v q) → ChT (PlusP P q) (v :: t) := by
  intro t
  induction t with
  | nil =>
    intro v h hv _
    refine ⟨Or.inl h.1, fun p hp => ?_⟩
    rcases hp with hp | hp
    · exact h.2 p hp
    · rw [hp]; exact ⟨by omega, fun z => by omega⟩
  | cons a t ih =>
    intro v h hv hA
    obtain ⟨h1, h2, h3, h4, h5⟩ := h
    have c1 := hA a rfl
    refine ⟨Or.inl h1, h2, fun p hp => ?_, h4, ih a h5 (by omega) (fun z hz => ?_)⟩
    · rcases hp with hp | hp
      · exact h3 p hp
      · rw [hp]; omega
    · have c2 := h4 z hz
      have i := crs_id z a v q
      have za : z.1 < a.1 := by
        cases t with
        | nil => cases hz
        | cons z' t' =>
          have : z' = z := Option.some.inj hz
          rw [← this]; exact h5.2.1
      have m1 := Int.mul_pos c2 (show 0 < q.1 - a.1 by omega)
      have m2 := Int.mul_pos c1 (show 0 < a.1 - z.1 by omega)
      exact pos_of_mul (show 0 < v.1 - a.1 by omega) (by omega)
/-- what stands below a new point: the turn at it goes up; what stood behind it lies above -/
def PreQ (P : Pt2 → Prop) (q : Pt2) (v : Pt2) : Prop := (∀ p, P p → p.1 ≤ v.1) ∨ ∃ w, v.1 < w.1 ∧ (∀ p, P p → 0 ≤ crz v w p) ∧ crz v w q ≤ 0
theorem pop_ok : ∀ (t : List Pt2) (v : Pt2), ChT P (v :: t) → v.1 < q.1 → PreQ P q v → ∃ v' t', popN q (v :: t) = v' :: t' ∧ ChT P (v' :: t') ∧ v'.1 < q.1 ∧ PreQ P q v' ∧ ∀ a, t'.head? = some a → 0 < crz a v' q := by
  intro t
  induction t with
  | nil =>
    intro v h hv hB
    exact ⟨v, [], rfl, h, hv, hB, fun a z => by cases z⟩
  | cons a t ih =>
    intro v h hv hB
    by_cases c : 0 < crz a v q
    · refine ⟨v, a :: t, ?_, h, hv, hB, fun z hz => ?_⟩
      · show (if 0 < crz a v q then v :: a :: t else popN q (a :: t)) = _
        rw [if_pos c]
      · rw [← Option.some.inj hz]; exact c
    · obtain ⟨h1, h2, h3, h4, h5⟩ := h
      obtain ⟨v', t', e, r⟩ := ih a h5 (by omega) (Or.inr ⟨v, h2, h3, by omega⟩)
      refine ⟨v', t', ?_, r⟩
      show (if 0 < crz a v q then v :: a :: t else popN q (a :: t)) = _
      rw [if_neg c]; exact e
theorem push_ok {v : Pt2} {t : List Pt2} (h : ChT P (v :: t)) (hv : v.1 < q.1) (hB : PreQ P q v) (hA : ∀ a, t.head? = some a → 0 < crz a v q) : ChT (PlusP P q) (q :: v :: t) := by
  refine ⟨Or.inr rfl, hv, fun p hp => ?_, hA, ChT_push t v h hv hA⟩
  rcases hp with hp | hp
  · by_cases c : p.1 ≤ v.1
    · cases t with
      | nil =>
        have := h.2 p hp
        have ex : p.1 = v.1 := by omega
        have ey := this.2 ex
        unfold crz
        rw [ex, Int.sub_self, Int.mul_zero, Int.sub_zero]
        exact Int.mul_nonneg (by omega) (by omega)
      | cons a t =>
        obtain ⟨h1, h2, h3, h4, h5⟩ := h
        have c1 := hA a rfl
        have c2 := h3 p hp
        have i := crs_id a v q p
        have m1 := Int.mul_nonneg c2 (show 0 ≤ q.1 - v.1 by omega)
        have m2 := Int.mul_nonneg (show 0 ≤ crz a v q by omega) (show 0 ≤ v.1 - p.1 by omega)
        have m3 : crz a v q * (v.1 - p.1) = -(crz a v q * (p.1 - v.1)) := by
          rw [← Int.mul_neg]; congr 1; omega
        exact nn_of_mul (show 0 < v.1 - a.1 by omega) (by omega)
    · rcases hB with z | ⟨w, w1, w2, w3⟩
      · have := z p hp; omega
      · have i := crs_id2 v w q p
        have m1 := Int.mul_nonneg (w2 p hp) (show 0 ≤ q.1 - v.1 by omega)
        have m2 := Int.mul_nonneg (show 0 ≤ -crz v w q by omega) (show 0 ≤ p.1 - v.1 by omega)
        rw [Int.neg_mul] at m2
        exact nn_of_mul (show 0 < w.1 - v.1 by omega) (by omega)
  · rw [hp, crs_self]; omega
theorem step_ok {st : List Pt2} (hc : ChT P st) (ht : TopT P st) (hq : ∀ p, P p → p.1 ≤ q.1) : ChT (PlusP P q) (stepH q st) ∧ TopT (PlusP P q) (stepH q st) := by
  cases st with
  | nil =>
    refine ⟨⟨Or.inr rfl, fun p hp => ?_⟩, fun b hb p hp => ?_⟩
    · rcases hp with hp | hp
      · exact absurd hp (hc p)
      · rw [hp]; exact ⟨by omega, fun _ => by omega⟩
    · have eb : q = b := Option.some.inj hb
      rcases hp with hp | hp
      · exact absurd hp (hc p)
      · rw [hp, ← eb]; exact ⟨by omega, fun _ => by omega⟩
  | cons b r =>
    have Pb := hc.hd
    have hb := hq b Pb
    have tp := ht b rfl
    by_cases c1 : b.1 = q.1
    · by_cases c2 : q.2 < b.2
      · have es : stepH q (b :: r) = q :: popN q r := (if_pos c1).trans (if_pos c2)
        rw [es]
        have top : TopT (PlusP P q) (q :: popN q r) := fun b' hb' p hp => by
          have eb : q = b' := Option.some.inj hb'
          rw [← eb]
          rcases hp with hp | hp
          · have := tp p hp
            exact ⟨by omega, fun z => by have := this.2 (by omega); omega⟩
          · rw [hp]; exact ⟨by omega, fun _ => by omega⟩
        cases r with
        | nil =>
          refine ⟨⟨Or.inr rfl, fun p hp => ?_⟩, top⟩
          rcases hp with hp | hp
          · have := hc.2 p hp
            exact ⟨by omega, fun z => by have := this.2 (by omega); omega⟩
          · rw [hp]; exact ⟨by omega, fun _ => by omega⟩
        | cons a r =>
          obtain ⟨h1, h2, h3, h4, h5⟩ := hc
          obtain ⟨v', t', e, k1, k2, k3, k4⟩ := pop_ok (q := q) r a h5 (by omega) (Or.inr ⟨b, h2, h3, by
            rw [crs_up a b b q c1.symm, crs_self]
            have := Int.mul_nonneg (show 0 ≤ b.1 - a.1 by omega) (show 0 ≤ b.2 - q.2 by omega)
            have e2 : (b.1 - a.1) * (q.2 - b.2) = -((b.1 - a.1) * (b.2 - q.2)) := by
              rw [← Int.mul_neg]; congr 1; omega
            omega⟩)
          rw [e] at top ⊢
          exact ⟨push_ok k1 k2 k3 k4, top⟩
      · have es : stepH q (b :: r) = b :: r := (if_pos c1).trans (if_neg c2)
        rw [es]
        refine ⟨ChT_add Pb c1.symm (by omega) _ (by intro z; cases z) hc, fun b' hb' p hp => ?_⟩
        rcases hp with hp | hp
        · exact ht b' hb' p hp
        · have eb : b = b' := Option.some.inj hb'
          rw [hp, ← eb]; exact ⟨by omega, fun _ => by omega⟩
    · have es : stepH q (b :: r) = q :: popN q (b :: r) := if_neg c1
      rw [es]
      obtain ⟨v', t', e, k1, k2, k3, k4⟩ := pop_ok (q := q) r b hc (by omega) (Or.inl (fun p hp => (tp p hp).1))
      rw [e]
      refine ⟨push_ok k1 k2 k3 k4, fun b' hb' p hp => ?_⟩
      have eb : q = b' := Option.some.inj hb'
      rw [← eb]
      rcases hp with hp | hp
      · have := tp p hp
        exact ⟨by omega, fun z => by omega⟩
      · rw [hp]; exact ⟨by omega, fun _ => by omega⟩
theorem pop_len (q : Pt2) : ∀ st : List Pt2, (popN q st).length ≤ st.length := by
  intro st
  induction st with
  | nil => exact Nat.le_refl _
  | cons b r ih =>
    cases r with
    | nil => exact Nat.le_refl _
    | cons a r =>
      show (if 0 < crz a b q then b :: a :: r else popN q (a :: r)).length ≤ _
      split
      · exact Nat.le_refl _
      · exact Nat.le_trans ih (Nat.le_succ _)
theorem step_len (q : Pt2) (st : List Pt2) : (stepH q st).length ≤ st.length + 1 := by
  cases st with
  | nil => exact Nat.le_refl _
  | cons b r =>
    show (if b.1 = q.1 then (if q.2 < b.2 then q :: popN q r else b :: r) else q :: popN q (b :: r)).length ≤ _
    split
    · split
      · have := pop_len q r
        rw [List.length_cons, List.length_cons]; omega
      · omega
    · have := pop_len q (b :: r)
      rw [List.length_cons]; omega
/-! the chain from its begin on -/
def ChW (P : Pt2 → Prop) : List Pt2 → Prop
  | [] => True
  | [v] => ∀ p, P p → p.1 ≤ v.1
  | v :: w :: r => v.1 < w.1 ∧ P w ∧ (∀ p, P p → 0 ≤ crz v w p) ∧ (∀ c, r.head? = some c → 0 < crz v w c) ∧ ChW P (w :: r)
theorem ch_rev : ∀ (r : List Pt2) (b : Pt2) (acc : List Pt2), ChT P (b :: r) → ChW P (b :: acc) → (∀ a, r.head? = some a → ∀ c, acc.head? = some c → 0 < crz a b c) → ChW P ((b :: r).reverse ++ acc) := by
  intro r
  induction r with
  | nil => intro b acc _ h _; exact h
  | cons a r ih =>
    intro b acc h hw hx
    obtain ⟨h1, h2, h3, h4, h5⟩ := h
    have := ih a (b :: acc) h5 ⟨h2, h1, h3, fun c hc => hx a rfl c hc, hw⟩ (fun z hz c hc => by
      rw [← Option.some.inj hc]; exact h4 z hz)
    rw [List.reverse_cons, List.append_assoc]
    exact this
theorem ch_w {st : List Pt2} (hc : ChT P st) (ht : TopT P st) : ChW P st.reverse := by
  cases st with
  | nil => trivial
  | cons b r =>
    have := ch_rev r b [] hc (fun p hp => (ht b rfl p hp).1) (fun _ _ c hc => by cases hc)
    rw [List.append_nil] at this
    exact this
theorem ch_last : ∀ (st : List Pt2) (v : Pt2), ChT P st → st.getLast? = some v → P v ∧ ∀ p, P p → v.1 ≤ p.1 ∧ (p.1 = v.1 → v.2 ≤ p.2) := by
  intro st
  induction st with
  | nil => intro v _ e; cases e
  | cons b r ih =>
    intro v h e
    cases r with
    | nil =>
      have : b = v := Option.some.inj e
      rw [← this]; exact h
    | cons a r =>
      refine ih v h.2.2.2.2 ?_
      rw [List.getLast?_cons_cons] at e
      exact e
/-- the next one on the chain is what is seen least steep, the farthest of these -/
theorem next_one {v w p : Pt2} {r : List Pt2} (h : ChW P (v :: w :: r)) (hp : P p) (hv : v.1 < p.1) (h1 : 0 ≤ crz v p w) (h2 : crz v p w = 0 → w.1 ≤ p.1) : p = w := by
  obtain ⟨a1, a2, a3, a4, a5⟩ := h
  have c1 := a3 p hp
  have c2 := crs_as v w p
  have c0 : crz v w p = 0 := by omega
  have le := h2 (by omega)
  by_cases e : p.1 = w.1
  · have e2 : p.2 = w.2 := by
      have := crs_up v w w p e
      rw [crs_self] at this
      have m0 : (w.1 - v.1) * (p.2 - w.2) = 0 := by omega
      rcases Int.mul_eq_zero.mp m0 with z | z <;> omega
    exact Prod.ext e e2
  · exfalso
    cases r with
    | nil => have := a5 p hp; omega
    | cons c r =>
      have k1 := a4 c rfl
      obtain ⟨b1, b2, b3, b4, b5⟩ := a5
      have k2 := b3 p hp
      have i := crs_id v w c p
      rw [c0, Int.zero_mul] at i
      have m1 := Int.mul_pos k1 (show 0 < p.1 - w.1 by omega)
      have m2 := Int.mul_nonneg k2 (show 0 ≤ w.1 - v.1 by omega)
      omega
end HU
