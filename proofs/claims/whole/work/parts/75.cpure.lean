/-! WHAT STANDS AHEAD OF AN x; how long it can be -/
def PreU (L : Nat → Ln) (n : Nat) (z0 : Rat) (ks : List Kn) : Prop := ∃ (xs : List Rat) (f : Rat → List Kn), xs.Pairwise (fun a b => a < b) ∧ (∀ x ∈ xs, x < z0) ∧ (∀ x k, x < z0 → KA L n x k → k ≠ [] → x ∈ xs) ∧ (∀ x ∈ xs, KA L n x (f x)) ∧ ks = xs.flatMap f
theorem PreU.nil {L : Nat → Ln} {n : Nat} {z0 : Rat} (hm : ∀ z k, z < z0 → KA L n z k → k = []) : PreU L n z0 [] :=
  ⟨[], fun _ => [], List.Pairwise.nil, (fun x hx => by cases hx), fun x k hx hk hne => absurd (hm x k hx hk) hne, (fun x hx => by cases hx), rfl⟩
theorem PreU.here {L : Nat → Ln} {n : Nat} {z0 : Rat} {ks k1 : List Kn} (h : PreU L n z0 ks) (h1 : KA L n z0 k1) : Upto L n z0 (ks ++ k1) := by
  obtain ⟨xs, f, a1, a2, a3, a4, rfl⟩ := h
  refine ⟨xs ++ [z0], fun z => if z = z0 then k1 else f z, ?_, ?_, ?_, ?_, ?_⟩
  · refine List.pairwise_append.mpr ⟨a1, List.pairwise_singleton _ _, fun a ha b hb => ?_⟩
    rw [List.mem_singleton.mp hb]
    exact a2 a ha
  · intro x hx
    rcases List.mem_append.mp hx with q | q
    · have := a2 x q; grind
    · rw [List.mem_singleton.mp q]; grind
  · intro x k hx hk hne
    rcases (show x < z0 ∨ x = z0 by grind) with q | q
    · exact List.mem_append_left _ (a3 x k q hk hne)
    · rw [q]; simp
  · intro x hx
    show KA L n x (if x = z0 then k1 else f x)
    by_cases e : x = z0
    · rw [if_pos e, e]; exact h1
    · rw [if_neg e]
      rcases List.mem_append.mp hx with q | q
      · exact a4 x q
      · exact absurd (List.mem_singleton.mp q) e
  · rw [List.flatMap_append]
    congr 1
    · exact flat_cong (fun x hx => by rw [if_neg (by have := a2 x hx; grind)])
    · simp
theorem Upto.pre {L : Nat → Ln} {n : Nat} {z0 z1 : Rat} {ks : List Kn} (h : Upto L n z0 ks) (hz : z0 < z1) (hm : ∀ z k, z0 < z → z < z1 → KA L n z k → k = []) : PreU L n z1 ks := by
  obtain ⟨xs, f, a1, a2, a3, a4, e⟩ := h
  refine ⟨xs, f, a1, fun x hx => by have := a2 x hx; grind, fun x k hx hk hne => ?_, a4, e⟩
  rcases (show x ≤ z0 ∨ z0 < x by grind) with q | q
  · exact a3 x k q hk hne
  · exact absurd (hm x k q hx hk) hne
theorem PreU.done {L : Nat → Ln} {n : Nat} {z0 : Rat} {ks : List Kn} (h : PreU L n z0 ks) (hm : ∀ z k, z0 ≤ z → KA L n z k → k = []) : PaperIs L n ks := by
  obtain ⟨xs, f, a1, a2, a3, a4, e⟩ := h
  refine ⟨xs, f, a1, fun x k hk hne => ?_, a4, e⟩
  rcases (show x < z0 ∨ z0 ≤ x by grind) with q | q
  · exact a3 x k q hk hne
  · exact absurd (hm x k q hk) hne
theorem srt_ex : ∀ l : List Rat, ∃ xs : List Rat, xs.Pairwise (fun a b => a < b) ∧ ∀ x, x ∈ xs ↔ x ∈ l
  | [] => ⟨[], List.Pairwise.nil, fun x => Iff.rfl⟩
  | a :: t => by
    obtain ⟨xs, p, m⟩ := srt_ex t
    refine ⟨xs.filter (fun z => decide (z < a)) ++ a :: xs.filter (fun z => decide (a < z)), ?_, fun x => ?_⟩
    · refine List.pairwise_append.mpr ⟨p.filter _, List.pairwise_cons.mpr ⟨fun b hb => ?_, p.filter _⟩, fun b hb c hc => ?_⟩
      · have := (List.mem_filter.mp hb).2
        simpa using this
      · have hb2 := (List.mem_filter.mp hb).2
        have hb3 : b < a := by simpa using hb2
        rcases List.mem_cons.mp hc with q | q
        · rw [q]; exact hb3
        · have hc2 := (List.mem_filter.mp q).2
          have hc3 : a < c := by simpa using hc2
          grind
    · rw [List.mem_append, List.mem_cons, List.mem_cons, List.mem_filter, List.mem_filter, ← m x]
      simp only [decide_eq_true_eq]
      constructor
      · rintro (q | q | q)
        · exact Or.inr q.1
        · exact Or.inl q
        · exact Or.inr q.1
      · rintro (q | q)
        · exact Or.inr (Or.inl q)
        · rcases (show x < a ∨ x = a ∨ a < x by grind) with y | y | y
          · exact Or.inl ⟨q, y⟩
          · exact Or.inr (Or.inl y)
          · exact Or.inr (Or.inr ⟨q, y⟩)
theorem paper_ex (L : Nat → Ln) (n : Nat) : ∃ ks, PaperIs L n ks := by
  obtain ⟨xs, p, m⟩ := srt_ex ((layN L n).map (fun q => q.1) ++ ((layN L n).map (fun q => q.2.1) ++ (List.range n).map (fun k => (lnF (L k) : Rat))))
  refine ⟨_, xs, KAf L n, p, fun x k hk hne => ?_, fun x _ => KAf_is L n x, rfl⟩
  apply Classical.byContradiction
  intro hx
  rw [m x] at hx
  simp only [List.mem_append, List.mem_map, List.mem_range, not_or, not_exists, not_and] at hx
  apply hne
  refine off_brk (layN_env L n) (fun q hq => ⟨fun z => hx.1 q hq z, fun z => hx.2.1 q hq z⟩) (fun k hk il => ?_) hk
  exact hx.2.2 k hk il.1
theorem Upto.len {L : Nat → Ln} {n B : Nat} {z0 : Rat} {ks : List Kn} (hb : ∀ ks, PaperIs L n ks → ks.length ≤ B) (u : Upto L n z0 ks) : ks.length ≤ B := by
  obtain ⟨ks2, ys, g, b1, b2, b3, e2⟩ := paper_ex L n
  obtain ⟨xs, f, a1, a2, a3, a4, e⟩ := u
  have key : PaperIs L n (ks ++ (ys.filter (fun z => decide (z0 < z))).flatMap g) := by
    refine ⟨xs ++ ys.filter (fun z => decide (z0 < z)), KAf L n, ?_, fun x k hk hne => ?_, fun x _ => KAf_is L n x, ?_⟩
    · refine List.pairwise_append.mpr ⟨a1, b1.filter _, fun b hb2 c hc => ?_⟩
      have h1 := a2 b hb2
      have h2 := (List.mem_filter.mp hc).2
      have h3 : z0 < c := by simpa using h2
      grind
    · rcases (show x ≤ z0 ∨ z0 < x by grind) with q | q
      · exact List.mem_append_left _ (a3 x k q hk hne)
      · exact List.mem_append_right _ (List.mem_filter.mpr ⟨b2 x k hk hne, by simpa using q⟩)
    · rw [List.flatMap_append, e]
      congr 1
      · exact flat_cong (fun x hx => KA_one (a4 x hx) (KAf_is L n x))
      · exact flat_cong (fun x hx => KA_one (b3 x (List.mem_filter.mp hx).1) (KAf_is L n x))
  have := hb _ key
  rw [List.length_append] at this
  omega
/-! counting down -/
theorem flt_lt {α : Type} {p p' : α → Bool} : ∀ {l : List α}, (∀ a ∈ l, p' a = true → p a = true) → (∃ a ∈ l, p a = true ∧ p' a = false) → (l.filter p').length + 1 ≤ (l.filter p).length
  | [], _, e => by obtain ⟨a, ha, _⟩ := e; cases ha
  | b :: t, i, e => by
    have le : ∀ {l : List α}, (∀ a ∈ l, p' a = true → p a = true) → (l.filter p').length ≤ (l.filter p).length := by
      intro l
      induction l with
      | nil => intro _; exact Nat.le_refl _
      | cons c u ih =>
        intro i
        have := ih (fun a ha => i a (List.mem_cons_of_mem _ ha))
        have hc := i c List.mem_cons_self
        rw [List.filter_cons, List.filter_cons]
        split
        · rename_i z
          rw [if_pos (hc z), List.length_cons, List.length_cons]; omega
        · split
          · rw [List.length_cons]; omega
          · exact this
    have i2 : ∀ a ∈ t, p' a = true → p a = true := fun a ha => i a (List.mem_cons_of_mem _ ha)
    have hb := i b List.mem_cons_self
    obtain ⟨a, ha, h1, h2⟩ := e
    rw [List.filter_cons, List.filter_cons]
    rcases List.mem_cons.mp ha with z | z
    · subst z
      rw [if_pos h1, if_neg (by rw [h2]; decide), List.length_cons]
      have := le i2
      omega
    · have := flt_lt i2 ⟨a, z, h1, h2⟩
      split
      · rename_i y
        rw [if_pos (hb y), List.length_cons, List.length_cons]; omega
      · split
        · rw [List.length_cons]; omega
        · exact this
