/-! WHAT A PAPER IS: the knots at each x, in the order of x -/
abbrev Kn : Type := Rat × Rat × Bool
def loneB (a b : Option (Rat × Rat)) (c : Option Rat) : Bool := match c with
  | none => false
  | some v => (match a with
    | none => true
    | some u => decide (v < u.1)) && (match b with
    | none => true
    | some u => decide (v < u.1))
def meetsB (a b : Option (Rat × Rat)) : Bool := match a, b with
  | some u, some w => decide (u.1 = w.1)
  | _, _ => false
def strB (a b : Option (Rat × Rat)) : Bool := match a, b with
  | some u, some w => decide (u.2 = w.2)
  | _, _ => false
def kno (x : Rat) (a b : Option (Rat × Rat)) (c : Option Rat) : List Kn :=
  if (!(loneB a b c) && meetsB a b) = true then (if strB a b = true then [] else (b.map (fun w => (x, w.1, true))).toList)
  else (a.map (fun u => (x, u.1, false))).toList ++ ((if loneB a b c = true then (c.map (fun v => (x, v, false))).toList else []) ++ (b.map (fun w => (x, w.1, true))).toList)
/-- what goes over a cut: value and slope of the lowest -/
def Sd (L : Nat → Ln) (n : Nat) (sd : Bool) (x : Rat) (a : Option (Rat × Rat)) : Prop := match a with
  | none => ∀ o, ¬ Low L n sd x o
  | some u => ∃ o, Low L n sd x o ∧ u = (vl (L o) x, sl (L o))
def isLone (L : Nat → Ln) (x : Rat) (k : Nat) : Prop := (lnF (L k) : Rat) = x ∧ (lnT (L k) : Rat) = x
/-- the lowest of the lone ones at x -/
def Sp (L : Nat → Ln) (n : Nat) (x : Rat) (c : Option Rat) : Prop := match c with
  | none => ∀ k, k < n → ¬ isLone L x k
  | some v => (∃ k, k < n ∧ isLone L x k ∧ v = vl (L k) x) ∧ ∀ k, k < n → isLone L x k → v ≤ vl (L k) x
def KA (L : Nat → Ln) (n : Nat) (x : Rat) (ks : List Kn) : Prop := ∃ a b c, Sd L n true x a ∧ Sd L n false x b ∧ Sp L n x c ∧ ks = kno x a b c
theorem Sd_one {L : Nat → Ln} {n : Nat} {sd : Bool} {x : Rat} {a b : Option (Rat × Rat)} (h : Sd L n sd x a) (h2 : Sd L n sd x b) : a = b := by
  cases a with
  | none =>
    cases b with
    | none => rfl
    | some u => obtain ⟨o, ho, -⟩ := h2; exact absurd ho (h o)
  | some v =>
    obtain ⟨o, ho, e⟩ := h
    cases b with
    | none => exact absurd ho (h2 o)
    | some u =>
      obtain ⟨p, hp, e2⟩ := h2
      have := Low_one ho hp
      subst this
      rw [e, e2]
theorem Sp_one {L : Nat → Ln} {n : Nat} {x : Rat} {a b : Option Rat} (h : Sp L n x a) (h2 : Sp L n x b) : a = b := by
  cases a with
  | none =>
    cases b with
    | none => rfl
    | some u => obtain ⟨⟨o, ho, hl, -⟩, -⟩ := h2; exact absurd hl (h o ho)
  | some v =>
    obtain ⟨⟨o, ho, hl, e⟩, hm⟩ := h
    cases b with
    | none => exact absurd hl (h2 o ho)
    | some u =>
      obtain ⟨⟨p, hp, hl2, e2⟩, hm2⟩ := h2
      have h3 := hm p hp hl2
      have h4 := hm2 o ho hl
      congr 1
      grind
theorem KA_one {L : Nat → Ln} {n : Nat} {x : Rat} {k k2 : List Kn} (h : KA L n x k) (h2 : KA L n x k2) : k = k2 := by
  obtain ⟨a, b, c, h1, h3, h4, e⟩ := h
  obtain ⟨a', b', c', h1', h3', h4', e'⟩ := h2
  rw [e, e', Sd_one h1 h1', Sd_one h3 h3', Sp_one h4 h4']
def PaperIs (L : Nat → Ln) (n : Nat) (ks : List Kn) : Prop := ∃ (xs : List Rat) (f : Rat → List Kn), xs.Pairwise (fun a b => a < b) ∧ (∀ x k, KA L n x k → k ≠ [] → x ∈ xs) ∧ (∀ x ∈ xs, KA L n x (f x)) ∧ ks = xs.flatMap f
theorem srt_one : ∀ {xs ys : List Rat}, xs.Pairwise (fun a b => a < b) → ys.Pairwise (fun a b => a < b) → (∀ x, x ∈ xs ↔ x ∈ ys) → xs = ys := by
  intro xs
  induction xs with
  | nil =>
    intro ys _ _ h
    cases ys with
    | nil => rfl
    | cons y t => exact absurd ((h y).mpr List.mem_cons_self) (by simp)
  | cons x t ih =>
    intro ys h1 h2 h
    cases ys with
    | nil => exact absurd ((h x).mp List.mem_cons_self) (by simp)
    | cons y u =>
      rw [List.pairwise_cons] at h1 h2
      have hxy : x = y := by
        rcases List.mem_cons.mp ((h x).mp List.mem_cons_self) with q | q
        · exact q
        · rcases List.mem_cons.mp ((h y).mpr List.mem_cons_self) with r | r
          · exact r.symm
          · have a1 := h2.1 x q
            have a2 := h1.1 y r
            grind
      subst hxy
      congr 1
      refine ih h1.2 h2.2 (fun z => ⟨fun hz => ?_, fun hz => ?_⟩)
      · rcases List.mem_cons.mp ((h z).mp (List.mem_cons_of_mem _ hz)) with q | q
        · have := h1.1 z hz; grind
        · exact q
      · rcases List.mem_cons.mp ((h z).mpr (List.mem_cons_of_mem _ hz)) with q | q
        · have := h2.1 z hz; grind
        · exact q
theorem flat_ne {f : Rat → List Kn} : ∀ (xs : List Rat), xs.flatMap f = (xs.filter (fun x => !(f x).isEmpty)).flatMap f := by
  intro xs
  induction xs with
  | nil => rfl
  | cons x t ih =>
    rw [List.flatMap_cons, List.filter_cons]
    cases hx : (f x) with
    | nil => simp [ih]
    | cons q u => simp [ih, hx]
theorem flat_cong {f g : Rat → List Kn} : ∀ {xs : List Rat}, (∀ x ∈ xs, f x = g x) → xs.flatMap f = xs.flatMap g := by
  intro xs
  induction xs with
  | nil => intro _; rfl
  | cons x t ih =>
    intro h
    rw [List.flatMap_cons, List.flatMap_cons, h x List.mem_cons_self, ih (fun z hz => h z (List.mem_cons_of_mem _ hz))]
theorem paper_one {L L' : Nat → Ln} {n n' : Nat} {ks ks' : List Kn} (h : PaperIs L n ks) (h' : PaperIs L' n' ks') (hk : ∀ x k, KA L n x k ↔ KA L' n' x k) : ks = ks' := by
  obtain ⟨xs, f, a1, a2, a3, rfl⟩ := h
  obtain ⟨ys, g, b1, b2, b3, rfl⟩ := h'
  rw [flat_ne xs, flat_ne (f := g) ys]
  have e : xs.filter (fun x => !(f x).isEmpty) = ys.filter (fun x => !(g x).isEmpty) := by
    apply srt_one (a1.filter _) (b1.filter _)
    intro x
    simp only [List.mem_filter, Bool.not_eq_true', List.isEmpty_eq_false_iff]
    constructor
    · rintro ⟨hx, hne⟩
      have hka := a3 x hx
      have hy := b2 x _ ((hk x _).mp hka) hne
      have := KA_one ((hk x _).mp hka) (b3 x hy)
      exact ⟨hy, by rw [← this]; exact hne⟩
    · rintro ⟨hy, hne⟩
      have hka := b3 x hy
      have hx := a2 x _ ((hk x _).mpr hka) hne
      have := KA_one ((hk x _).mpr hka) (a3 x hx)
      exact ⟨hx, by rw [← this]; exact hne⟩
  rw [e]
  refine flat_cong (fun x hx => ?_)
  have hy := (List.mem_filter.mp hx).1
  rw [← e] at hx
  have hxs := (List.mem_filter.mp hx).1
  exact KA_one (a3 x hxs) ((hk x _).mpr (b3 x hy))
/-! the reference's paper: at the ends of the pieces and at the lone knots -/
theorem off_brk {L : Nat → Ln} {n : Nat} {ps : List Pie} {x : Rat} {k : List Kn} (he : EnvN L n ps) (h1 : ∀ q ∈ ps, q.1 ≠ x ∧ q.2.1 ≠ x) (h2 : ∀ m, m < n → ¬ isLone L x m) (hk : KA L n x k) : k = [] := by
  obtain ⟨a, b, c, ha, hb, hc, rfl⟩ := hk
  have hc0 : c = none := Sp_one hc (show Sp L n x none from h2)
  subst hc0
  have lr : ∀ o, Low L n true x o → Low L n false x o := by
    intro o ho
    obtain ⟨q, hq, e1, e2, e3⟩ := (he.2 true x o).mpr ho
    refine (he.2 false x o).mp ⟨q, hq, e1, ?_, ?_⟩
    · unfold bey at *; simp at *; grind
    · have := (h1 q hq).2
      unfold bey at *; simp at *; grind
  have rl : ∀ o, Low L n false x o → Low L n true x o := by
    intro o ho
    obtain ⟨q, hq, e1, e2, e3⟩ := (he.2 false x o).mpr ho
    refine (he.2 true x o).mp ⟨q, hq, e1, ?_, ?_⟩
    · have := (h1 q hq).1
      unfold bey at *; simp at *; grind
    · unfold bey at *; simp at *; grind
  cases a with
  | none =>
    cases b with
    | none => rfl
    | some u => obtain ⟨o, ho, -⟩ := hb; exact absurd (rl o ho) (ha o)
  | some u =>
    obtain ⟨o, ho, rfl⟩ := ha
    have hb2 : b = some (vl (L o) x, sl (L o)) := Sd_one hb (show Sd L n false x (some _) from ⟨o, lr o ho, rfl⟩)
    rw [hb2]
    simp [kno, loneB, meetsB, strB]
