/-! FEW LINES: pieces, knots, bounds -/
def rkP (L : Nat → Ln) (s t : Nat) : Bool := decide (sl (L t) < sl (L s) ∨ (sl (L t) = sl (L s) ∧ t < s))
def rkN (L : Nat → Ln) (n s : Nat) : Nat := ((List.range n).filter (rkP L s)).length
theorem fl_le {p q : Nat → Bool} (h : ∀ t, p t = true → q t = true) : ∀ l : List Nat, (l.filter p).length ≤ (l.filter q).length := by
  intro l
  induction l with
  | nil => exact Nat.le_refl _
  | cons a l ih =>
    rw [List.filter_cons, List.filter_cons]
    cases hp : p a with
    | false =>
      rw [if_neg (by decide)]
      cases hq : q a with
      | false => rw [if_neg (by decide)]; exact ih
      | true => rw [if_pos rfl, List.length_cons]; omega
    | true => rw [h a hp, if_pos rfl, if_pos rfl, List.length_cons, List.length_cons]; omega
theorem fl_lt {p q : Nat → Bool} (h : ∀ t, p t = true → q t = true) {a : Nat} (hq : q a = true) (hp : p a = false) : ∀ l : List Nat, a ∈ l → (l.filter p).length < (l.filter q).length := by
  intro l
  induction l with
  | nil => intro z; exact absurd z List.not_mem_nil
  | cons b l ih =>
    intro z
    rw [List.filter_cons, List.filter_cons]
    rcases List.mem_cons.mp z with e | e
    · rw [← e, hp, hq, if_neg (by decide), if_pos rfl, List.length_cons]
      have := fl_le h l
      omega
    · have := ih e
      cases hp2 : p b with
      | false =>
        rw [if_neg (by decide)]
        cases hq2 : q b with
        | false => rw [if_neg (by decide)]; exact this
        | true => rw [if_pos rfl, List.length_cons]; omega
      | true => rw [h b hp2, if_pos rfl, if_pos rfl, List.length_cons, List.length_cons]; omega
theorem rk_lt {L : Nat → Ln} {n s t : Nat} (hs : s < n) (h : sl (L s) < sl (L t) ∨ (sl (L s) = sl (L t) ∧ s < t)) : rkN L n s < rkN L n t := by
  refine fl_lt (fun u hu => ?_) (a := s) (decide_eq_true h) (decide_eq_false (fun z => ?_)) _ (List.mem_range.mpr hs)
  · have hu := of_decide_eq_true hu
    refine decide_eq_true ?_
    rcases h with h | h <;> rcases hu with hu | hu
    · exact Or.inl (by grind)
    · exact Or.inl (by grind)
    · exact Or.inl (by grind)
    · exact Or.inr ⟨by grind, by omega⟩
  · rcases z with z | z
    · grind
    · omega
theorem rk_ne {L : Nat → Ln} {n s t : Nat} (hs : s < n) (ht : t < n) (ne : s ≠ t) : rkN L n s ≠ rkN L n t := by
  intro e
  have tri : (sl (L s) < sl (L t) ∨ (sl (L s) = sl (L t) ∧ s < t)) ∨ (sl (L t) < sl (L s) ∨ (sl (L t) = sl (L s) ∧ t < s)) := by
    by_cases c1 : sl (L s) < sl (L t)
    · exact Or.inl (Or.inl c1)
    · by_cases c2 : sl (L t) < sl (L s)
      · exact Or.inr (Or.inl c2)
      · have c3 : sl (L s) = sl (L t) := by grind
        by_cases c4 : s < t
        · exact Or.inl (Or.inr ⟨c3, c4⟩)
        · exact Or.inr (Or.inr ⟨c3.symm, by omega⟩)
  rcases tri with z | z
  · have := rk_lt hs z; omega
  · have := rk_lt ht z; omega
theorem rk_fam (L : Nat → Ln) (n : Nat) : FamOk L n (rkN L n) := by
  intro s t hs ht
  refine ⟨fun h => ?_, fun ne e => absurd e (rk_ne hs ht ne)⟩
  by_cases c : sl (L s) ≤ sl (L t)
  · exact c
  · have := rk_lt (L := L) (n := n) (s := t) (t := s) ht (Or.inl (by grind))
    omega
theorem tau_32 : tau 5 32 = 192 := by decide
theorem pies_few {L : Nat → Ln} {n : Nat} {ps : List Pie} (he : EnvN L n ps) (hn : n ≤ 31) : ps.length ≤ 192 := by
  have := pies_le (c := 1) (k := 5) (G := 32) he (rk_fam L n) (fun s hs => by
    have := List.length_filter_le (rkP L s) (List.range n)
    rw [List.length_range] at this
    show ((List.range n).filter (rkP L s)).length < 32
    omega) (by decide) (fun y l nd hl => by
    match l, nd, hl with
    | [], _, _ => exact Nat.zero_le _
    | [_], _, _ => exact Nat.le_refl _
    | a :: b :: r, nd, hl =>
      exfalso
      have ab : a ≠ b := fun e => (List.nodup_cons.mp nd).1 (by rw [e]; exact List.mem_cons_self)
      have h1 := hl a List.mem_cons_self
      have h2 := hl b (List.mem_cons_of_mem _ List.mem_cons_self)
      exact rk_ne h1.2 h2.2 ab (h1.1.trans h2.1.symm))
  rw [tau_32] at this
  omega
theorem om_1 {α β : Type} (f : α → β) (o : Option α) : (o.map f).toList.length ≤ 1 := by
  cases o
  · exact Nat.zero_le _
  · exact Nat.le_refl _
theorem kno_3 {x : Rat} {a b : Option (Rat × Rat)} {c : Option Rat} : (kno x a b c).length ≤ 3 := by
  unfold kno
  have ha := om_1 (fun u : Rat × Rat => ((x, u.1, false) : Kn)) a
  have hb := om_1 (fun u : Rat × Rat => ((x, u.1, true) : Kn)) b
  have hc := om_1 (fun v : Rat => ((x, v, false) : Kn)) c
  split
  · split
    · exact Nat.zero_le _
    · exact Nat.le_trans hb (by decide)
  · rw [List.length_append, List.length_append]
    split
    · omega
    · rw [List.length_nil]; omega
theorem nd_sub : ∀ {xs ys : List Rat}, xs.Pairwise (fun a b => a < b) → (∀ x ∈ xs, x ∈ ys) → xs.length ≤ ys.length := by
  intro xs
  induction xs with
  | nil => intro ys _ _; exact Nat.zero_le _
  | cons a xs ih =>
    intro ys pw hs
    have ha := hs a List.mem_cons_self
    have pw2 := List.pairwise_cons.mp pw
    have := ih (ys := ys.erase a) pw2.2 (fun x hx => by
      have ne : x ≠ a := fun e => by have := pw2.1 x hx; rw [e] at this; grind
      exact (List.mem_erase_of_ne ne).mpr (hs x (List.mem_cons_of_mem _ hx)))
    rw [List.length_erase_of_mem ha] at this
    have := List.length_pos_of_mem ha
    rw [List.length_cons]
    omega
theorem flat_3 {f : Rat → List Kn} : ∀ (xs : List Rat), (∀ x ∈ xs, (f x).length ≤ 3) → (xs.flatMap f).length ≤ 3 * xs.length := by
  intro xs
  induction xs with
  | nil => intro _; exact Nat.le_refl _
  | cons a xs ih =>
    intro h
    rw [List.flatMap_cons, List.length_append, List.length_cons]
    have := h a List.mem_cons_self
    have := ih (fun x hx => h x (List.mem_cons_of_mem _ hx))
    omega
theorem knots_few {L : Nat → Ln} {n : Nat} {ks : List Kn} (hp : PaperIs L n ks) (hn : n ≤ 31) : ks.length ≤ 1300 := by
  obtain ⟨xs, f, pw, _, hk, rfl⟩ := hp
  have he := layN_env L n
  have hl := pies_few he hn
  rw [flat_ne]
  have pw2 : (xs.filter (fun x => !(f x).isEmpty)).Pairwise (fun a b => a < b) := pw.sublist List.filter_sublist
  have sub := nd_sub (ys := (layN L n).map (fun q => q.1) ++ ((layN L n).map (fun q => q.2.1) ++ (List.range n).map (fun m => (lnF (L m) : Rat)))) pw2 (fun x hx => by
    obtain ⟨h1, h2⟩ := List.mem_filter.mp hx
    have ne : f x ≠ [] := fun e => by rw [e] at h2; exact absurd h2 (by decide)
    by_cases c1 : x ∈ (layN L n).map (fun q => q.1)
    · exact List.mem_append_left _ c1
    · refine List.mem_append_right _ ?_
      by_cases c2 : x ∈ (layN L n).map (fun q => q.2.1)
      · exact List.mem_append_left _ c2
      · refine List.mem_append_right _ ?_
        by_cases c3 : x ∈ (List.range n).map (fun m => (lnF (L m) : Rat))
        · exact c3
        · exfalso
          refine ne (off_brk he (fun q hq => ⟨fun e => c1 ?_, fun e => c2 ?_⟩) (fun m hm z => c3 ?_) (hk x h1))
          · exact List.mem_map.mpr ⟨q, hq, e⟩
          · exact List.mem_map.mpr ⟨q, hq, e⟩
          · exact List.mem_map.mpr ⟨m, List.mem_range.mpr hm, z.1⟩)
  have f3 := flat_3 (f := f) (xs.filter (fun x => !(f x).isEmpty)) (fun x hx => by
    obtain ⟨a, b, c, _, _, _, e⟩ := hk x (List.mem_filter.mp hx).1
    rw [e]; exact kno_3)
  rw [List.length_append, List.length_append, List.length_map, List.length_map, List.length_map, List.length_range] at sub
  omega
