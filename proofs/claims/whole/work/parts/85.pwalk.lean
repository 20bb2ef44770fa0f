/-! BETWEEN KNOTS ALL IS STRAIGHT -/
theorem kno_nil {x : Rat} {a b : Option (Rat × Rat)} {c : Option Rat} (h : kno x a b c = []) : a = b := by
  cases a with
  | none =>
    cases b with
    | none => rfl
    | some w => unfold kno at h; simp [meetsB] at h
  | some u =>
    cases b with
    | none => unfold kno at h; simp [meetsB] at h
    | some w =>
      unfold kno at h
      split at h
      · rename_i h1
        split at h
        · rename_i h2
          simp [meetsB] at h1
          simp [strB] at h2
          congr 1
          exact Prod.ext h1.2 h2
        · simp at h
      · simp at h
theorem Sd_at {L : Nat → Ln} {n : Nat} {sd : Bool} {x : Rat} {o : Nat} (h : Low L n sd x o) : Sd L n sd x (some (vl (L o) x, sl (L o))) := ⟨o, h, rfl⟩
theorem no_eq {L : Nat → Ln} {n : Nat} {x : Rat} {u : Option (Rat × Rat)} (hn : ∀ k, KA L n x k → k = []) : Sd L n true x u ↔ Sd L n false x u := by
  obtain ⟨k, ka⟩ := KA_ex L n x
  obtain ⟨a, b, c, ha, hb, hc, e⟩ := id ka
  have e2 : a = b := kno_nil (by rw [← e]; exact hn k ka)
  subst e2
  constructor
  · intro z; rw [Sd_one z ha]; exact hb
  · intro z; rw [Sd_one z hb]; exact ha
theorem wlkR {L : Nat → Ln} {n : Nat} {x2 : Rat} : ∀ (m : Nat) (x : Rat) (u : Rat × Rat), ((layN L n).filter (fun q => decide (x < q.2.1))).length ≤ m → Sd L n false x (some u) → (∀ z k, x < z → z < x2 → KA L n z k → k = []) → ∀ y, x < y → y ≤ x2 → Sd L n true y (some (u.1 + u.2 * (y - x), u.2)) := by
  intro m
  induction m with
  | zero =>
    intro x u hm hs hn y h1 h2
    obtain ⟨o, ho, e⟩ := hs
    obtain ⟨q, hq, e1, e2, e3⟩ := ((layN_env L n).2 false x o).mpr ho
    have : q ∈ (layN L n).filter (fun q => decide (x < q.2.1)) := List.mem_filter.mpr ⟨hq, by unfold bey at e3; simp at e3; simp; grind⟩
    have := List.length_pos_of_mem this
    omega
  | succ m ih =>
    intro x u hm hs hn y h1 h2
    obtain ⟨o, ho, e⟩ := hs
    obtain ⟨q, hq, e1, e2, e3⟩ := ((layN_env L n).2 false x o).mpr ho
    unfold bey at e2 e3
    simp at e2 e3
    have e3 : x < q.2.1 := by grind
    have lft : ∀ z, x < z → z ≤ q.2.1 → Sd L n true z (some (u.1 + u.2 * (z - x), u.2)) := by
      intro z z1 z2
      refine ⟨o, ((layN_env L n).2 true z o).mp ⟨q, hq, e1, by unfold bey; simp; grind, by unfold bey; simp; grind⟩, ?_⟩
      rw [e, vl_mv (L o) x z]
    by_cases c : y ≤ q.2.1
    · exact lft y h1 c
    · have l1 := lft q.2.1 e3 (by grind)
      have l2 := (no_eq (fun k hk => hn q.2.1 k e3 (by grind) hk)).mp l1
      have l3 := ih q.2.1 _ (by
        have := flt_lt (l := layN L n) (p := fun r => decide (x < r.2.1)) (p' := fun r => decide (q.2.1 < r.2.1)) (fun a _ ha => by simp at ha ⊢; grind) ⟨q, hq, by simpa using e3, by simp⟩
        omega) l2 (fun z k z1 z2 => hn z k (by grind) z2) y (by grind) h2
      have : u.1 + u.2 * (q.2.1 - x) + u.2 * (y - q.2.1) = u.1 + u.2 * (y - x) := by grind
      rw [← this]
      exact l3
theorem wlkL {L : Nat → Ln} {n : Nat} {x2 : Rat} : ∀ (m : Nat) (x : Rat) (u : Rat × Rat), ((layN L n).filter (fun q => decide (q.1 < x))).length ≤ m → Sd L n true x (some u) → (∀ z k, x2 < z → z < x → KA L n z k → k = []) → ∀ y, y < x → x2 ≤ y → Sd L n false y (some (u.1 + u.2 * (y - x), u.2)) := by
  intro m
  induction m with
  | zero =>
    intro x u hm hs hn y h1 h2
    obtain ⟨o, ho, e⟩ := hs
    obtain ⟨q, hq, e1, e2, e3⟩ := ((layN_env L n).2 true x o).mpr ho
    have : q ∈ (layN L n).filter (fun q => decide (q.1 < x)) := List.mem_filter.mpr ⟨hq, by unfold bey at e2; simp at e2; simpa using e2⟩
    have := List.length_pos_of_mem this
    omega
  | succ m ih =>
    intro x u hm hs hn y h1 h2
    obtain ⟨o, ho, e⟩ := hs
    obtain ⟨q, hq, e1, e2, e3⟩ := ((layN_env L n).2 true x o).mpr ho
    unfold bey at e2 e3
    simp at e2 e3
    have lft : ∀ z, z < x → q.1 ≤ z → Sd L n false z (some (u.1 + u.2 * (z - x), u.2)) := by
      intro z z1 z2
      refine ⟨o, ((layN_env L n).2 false z o).mp ⟨q, hq, e1, by unfold bey; simp; grind, by unfold bey; simp; grind⟩, ?_⟩
      rw [e, vl_mv (L o) x z]
    by_cases c : q.1 ≤ y
    · exact lft y h1 c
    · have l1 := lft q.1 e2 (by grind)
      have l2 := (no_eq (fun k hk => hn q.1 k (by grind) e2 hk)).mpr l1
      have l3 := ih q.1 _ (by
        have := flt_lt (l := layN L n) (p := fun r => decide (r.1 < x)) (p' := fun r => decide (r.1 < q.1)) (fun a _ ha => by simp at ha ⊢; grind) ⟨q, hq, by simpa using e2, by simp⟩
        omega) l2 (fun z k z1 z2 => hn z k z1 (by grind)) y (by grind) h2
      have : u.1 + u.2 * (q.1 - x) + u.2 * (y - q.1) = u.1 + u.2 * (y - x) := by grind
      rw [← this]
      exact l3
/-! the knots at one x -/
theorem kno_true {x : Rat} {a b : Option (Rat × Rat)} {c : Option Rat} {q : Kn} (hq : q ∈ kno x a b c) (ht : q.2.2 = true) : ∃ w, b = some w ∧ q = (x, w.1, true) := by
  unfold kno at hq
  cases b with
  | none => cases a <;> cases c <;> (repeat' split at hq) <;> simp at hq <;> grind
  | some w => refine ⟨w, rfl, ?_⟩; cases a <;> cases c <;> (repeat' split at hq) <;> simp at hq <;> grind
theorem kno_right {x : Rat} {a : Option (Rat × Rat)} {w : Rat × Rat} {c : Option Rat} (h : kno x a (some w) c ≠ []) : (x, w.1, true) ∈ kno x a (some w) c := by
  unfold kno at *
  (repeat' split) <;> simp_all
theorem kno_left {x : Rat} {b : Option (Rat × Rat)} {u : Rat × Rat} {c : Option Rat} : ((x, u.1, false) ∈ kno x (some u) b c) ∨ ∀ q ∈ kno x (some u) b c, q = (x, u.1, true) := by
  unfold kno
  split
  · rename_i h1
    right
    intro q hq
    cases b with
    | none => simp [meetsB] at h1
    | some w =>
      simp [meetsB] at h1
      split at hq
      · simp at hq
      · simp at hq; rw [hq, h1.2]
  · left; simp
theorem kno_false {x : Rat} {a b : Option (Rat × Rat)} {c : Option Rat} {q : Kn} (hq : q ∈ kno x a b c) (ht : q.2.2 = false) : (∃ u, a = some u ∧ q = (x, u.1, false)) ∨ (loneB a b c = true ∧ ∃ v, c = some v ∧ q = (x, v, false)) := by
  unfold kno at hq
  split at hq
  · split at hq
    · simp at hq
    · cases b with
      | none => simp at hq
      | some w => simp at hq; rw [hq] at ht; simp at ht
  · cases a with
    | none =>
      right
      cases b <;> cases c <;> (repeat' split at hq) <;> simp at hq <;> grind
    | some u =>
      cases b <;> cases c <;> (repeat' split at hq) <;> simp at hq <;> grind
theorem kno_lone {x : Rat} {a b : Option (Rat × Rat)} {c : Option Rat} : kno x a b c = kno x a b (if loneB a b c = true then c else none) := by
  split
  · rfl
  · rename_i h
    have h0 : loneB a b none = false := rfl
    unfold kno
    rw [h0]
    simp [h]
theorem kno_pw {x : Rat} {a b : Option (Rat × Rat)} {c : Option Rat} : (kno x a b c).Pairwise (fun q r => q.1 = r.1 ∧ q.2.2 = false ∧ ∀ u, a = some u → r ≠ (x, u.1, false)) := by
  unfold kno
  split
  · split
    · simp
    · cases b <;> simp
  · split
    · rename_i h1 h2
      cases a with
      | none => cases b <;> cases c <;> simp
      | some u =>
        cases c with
        | none => simp [loneB] at h2
        | some v =>
          simp only [loneB, Bool.and_eq_true, decide_eq_true_eq] at h2
          cases b <;> simp <;> grind
    · cases a <;> cases b <;> simp
def RLk (L : Nat → Ln) (n : Nat) (q r : Kn) : Prop := q.1 < r.1 ∨ (q.1 = r.1 ∧ q.2.2 = false ∧ ∀ u, Sd L n true r.1 (some u) → r ≠ (r.1, u.1, false))
theorem paper_RL {L : Nat → Ln} {n : Nat} {ks : List Kn} (h : PaperIs L n ks) : ks.Pairwise (RLk L n) := by
  obtain ⟨xs, f, a1, a2, a3, e⟩ := h
  rw [e, List.pairwise_flatMap]
  refine ⟨fun x hx => ?_, ?_⟩
  · obtain ⟨a, b, c, ha, _, _, ek⟩ := a3 x hx
    rw [ek]
    refine List.Pairwise.imp_of_mem ?_ kno_pw
    intro q r hq hr ⟨h1, h2, h3⟩
    refine Or.inr ⟨h1, h2, fun u hu => ?_⟩
    have er := kno_x r hr
    rw [er] at hu ⊢
    exact h3 u (Sd_one ha hu)
  · refine List.Pairwise.imp_of_mem ?_ a1
    intro x y hx hy hxy q hq r hr
    obtain ⟨a, b, c, _, _, _, ek⟩ := a3 x hx
    obtain ⟨a', b', c', _, _, _, ek'⟩ := a3 y hy
    rw [ek] at hq
    rw [ek'] at hr
    left
    rw [kno_x q hq, kno_x r hr]
    exact hxy
