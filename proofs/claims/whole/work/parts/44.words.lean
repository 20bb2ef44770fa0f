/-! WORDS: how many pieces there can be -/
/-- neighbours alike in a row -/
def dups : List Nat → Nat
  | [] => 0
  | [_] => 0
  | a :: b :: t => (if a = b then 1 else 0) + dups (b :: t)
/-- neighbours alike made one -/
def dd : List Nat → List Nat
  | [] => []
  | [a] => [a]
  | a :: b :: t => if a = b then dd (b :: t) else a :: dd (b :: t)
theorem dd_len : ∀ (w : List Nat), w.length = (dd w).length + dups w := by
  intro w
  induction w with
  | nil => rfl
  | cons a t ih =>
    cases t with
    | nil => rfl
    | cons b t =>
      by_cases h : a = b
      · simp only [dd, dups, h, if_true, List.length_cons] at ih ⊢; omega
      · simp only [dd, dups, h, if_false, List.length_cons] at ih ⊢; omega
theorem dd_sub : ∀ (w : List Nat), List.Sublist (dd w) w := by
  intro w
  induction w with
  | nil => exact List.Sublist.refl _
  | cons a t ih =>
    cases t with
    | nil => exact List.Sublist.refl _
    | cons b t =>
      by_cases h : a = b
      · simp only [dd, h, if_true]; exact List.Sublist.cons _ (h ▸ ih)
      · simp only [dd, h, if_false]; exact List.Sublist.cons₂ _ ih
/-- no neighbours alike -/
def Nr : List Nat → Prop
  | [] => True
  | [_] => True
  | a :: b :: t => a ≠ b ∧ Nr (b :: t)
theorem dd_head : ∀ (a : Nat) (t : List Nat), ∃ u, dd (a :: t) = a :: u := by
  intro a t
  induction t generalizing a with
  | nil => exact ⟨[], rfl⟩
  | cons b t ih =>
    by_cases h : a = b
    · obtain ⟨u, hu⟩ := ih b
      exact ⟨u, by simp only [dd, h, if_true]; exact hu⟩
    · exact ⟨dd (b :: t), by simp only [dd, h, if_false]⟩
theorem dd_nr : ∀ (w : List Nat), Nr (dd w) := by
  intro w
  induction w with
  | nil => trivial
  | cons a t ih =>
    cases t with
    | nil => trivial
    | cons b t =>
      by_cases h : a = b
      · simp only [dd, h, if_true]; exact ih
      · simp only [dd, h, if_false]
        obtain ⟨u, hu⟩ := dd_head b t
        rw [hu] at ih ⊢
        exact ⟨h, ih⟩
theorem Nr.tail {a : Nat} {t : List Nat} (h : Nr (a :: t)) : Nr t := by
  cases t with
  | nil => trivial
  | cons b t => exact h.2
/-- the number of letters outside p that come for the first time, pre being what came ahead -/
def fst (p : Nat → Bool) : List Nat → List Nat → Nat
  | _, [] => 0
  | pre, y :: ys => (if p y = false ∧ y ∉ pre then 1 else 0) + fst p (pre ++ [y]) ys
/-- neighbours alike among the letters of p, behind the letter 'last' -/
def dupA (p : Nat → Bool) : Option Nat → List Nat → Nat
  | _, [] => 0
  | last, y :: ys => if p y = true then (if last = some y then 1 else 0) + dupA p (some y) ys else dupA p last ys
theorem dupA_eq (p : Nat → Bool) : ∀ (w : List Nat) (a : Nat), dupA p (some a) w = dups (a :: w.filter p) := by
  intro w
  induction w with
  | nil => intro a; rfl
  | cons y t ih =>
    intro a
    unfold dupA
    by_cases h : p y = true
    · rw [if_pos h, List.filter_cons, if_pos h, ih y]
      simp [dups]
    · rw [if_neg h, List.filter_cons, if_neg h, ih a]
theorem dupA_none (p : Nat → Bool) : ∀ (w : List Nat), dupA p none w = dups (w.filter p) := by
  intro w
  induction w with
  | nil => rfl
  | cons y t ih =>
    unfold dupA
    by_cases h : p y = true
    · rw [if_pos h, List.filter_cons, if_pos h, dupA_eq]; simp
    · rw [if_neg h, List.filter_cons, if_neg h, ih]
/-- nothing of p stands between the latest letter of p and the end of pre; blk: the first letter behind it -/
theorem dupA_le (p : Nat → Bool) : ∀ (ys pre : List Nat), Nr (pre ++ ys) → (∀ a b, p a = true → p b = false → ¬ List.Sublist [b, a, b, a] (pre ++ ys)) →
    (∀ (u : List Nat), pre = u → (∀ a ∈ u, p a = false) → dupA p none ys ≤ fst p pre ys) ∧
    (∀ (u : List Nat) (t : Nat), pre = u ++ [t] → p t = true → dupA p (some t) ys ≤ fst p pre ys) ∧
    (∀ (u : List Nat) (t s : Nat) (v : List Nat), pre = u ++ t :: s :: v → p t = true → p s = false → (∀ a ∈ v, p a = false) → dupA p (some t) ys ≤ fst p pre ys + (if s ∉ u then 1 else 0)) := by
  intro ys
  induction ys with
  | nil => intro pre _ _; exact ⟨fun _ _ _ => Nat.le_refl _, fun _ _ _ _ => Nat.le_refl _, fun _ _ _ _ _ _ _ _ => Nat.zero_le _⟩
  | cons y ys ih =>
    intro pre hnr hf
    have e : pre ++ y :: ys = (pre ++ [y]) ++ ys := by simp
    obtain ⟨i1, i2, i3⟩ := ih (pre ++ [y]) (by rw [← e]; exact hnr) (by rw [← e]; exact hf)
    refine ⟨fun u hu hall => ?_, fun u t hu ht => ?_, fun u t s v hu ht hs hv => ?_⟩
    · unfold dupA fst
      by_cases hy : p y = true
      · rw [if_pos hy]
        have := i2 pre y rfl hy
        simp; omega
      · rw [if_neg hy]
        have := i1 (pre ++ [y]) rfl (by
          intro a ha
          rcases List.mem_append.mp ha with q | q
          · rw [hu] at q; exact hall a q
          · rw [List.mem_singleton.mp q]; simpa using hy)
        omega
    · unfold dupA fst
      by_cases hy : p y = true
      · rw [if_pos hy]
        have hne : t ≠ y := by
          have h1 : Nr (u ++ t :: y :: ys) := by rw [hu] at hnr; simpa using hnr
          have : ∀ (u : List Nat), Nr (u ++ t :: y :: ys) → t ≠ y := by
            intro u
            induction u with
            | nil => intro h; exact h.1
            | cons a w ihw => intro h; exact ihw (Nr.tail h)
          exact this u h1
        rw [if_neg (by simpa using hne)]
        have := i2 pre y rfl hy
        omega
      · rw [if_neg hy]
        have h3 := i3 u t y [] (by rw [hu]; simp) ht (by simpa using hy) (by simp)
        have hyt : y ≠ t := fun q => hy (q ▸ ht)
        by_cases hm : y ∈ u
        · rw [if_neg (by simpa using hm)] at h3
          omega
        · rw [if_pos hm] at h3
          rw [if_pos ⟨by simpa using hy, by rw [hu]; simp [hm, hyt]⟩]
          omega
    · unfold dupA fst
      by_cases hy : p y = true
      · rw [if_pos hy]
        have h2 := i2 pre y rfl hy
        by_cases hty : t = y
        · subst hty
          rw [if_pos rfl]
          have hsu : s ∉ u := by
            intro hm
            refine hf t s ht hs ?_
            rw [hu]
            have w1 : List.Sublist [s] u := List.singleton_sublist.mpr hm
            have w2 : List.Sublist [t, s, t] (t :: s :: v ++ t :: ys) := by
              refine List.Sublist.cons₂ _ (List.Sublist.cons₂ _ ?_)
              exact List.Sublist.trans (List.singleton_sublist.mpr List.mem_cons_self) (List.sublist_append_right v (t :: ys))
            have := List.Sublist.append w1 w2
            simpa using this
          rw [if_pos hsu]
          omega
        · rw [if_neg (by simpa using hty)]
          omega
      · rw [if_neg hy]
        have h3 := i3 u t s (v ++ [y]) (by rw [hu]; simp) ht hs (by
          intro a ha
          rcases List.mem_append.mp ha with q | q
          · exact hv a q
          · rw [List.mem_singleton.mp q]; simpa using hy)
        omega
theorem fst_le (p : Nat → Bool) : ∀ (ys pre : List Nat), ∃ l : List Nat, l.Nodup ∧ l.length = fst p pre ys ∧ ∀ a ∈ l, a ∈ ys ∧ a ∉ pre ∧ p a = false := by
  intro ys
  induction ys with
  | nil => intro pre; exact ⟨[], List.nodup_nil, rfl, by simp⟩
  | cons y ys ih =>
    intro pre
    obtain ⟨l, h1, h2, h3⟩ := ih (pre ++ [y])
    unfold fst
    by_cases h : p y = false ∧ y ∉ pre
    · refine ⟨y :: l, List.nodup_cons.mpr ⟨fun hm => (h3 y hm).2.1 (by simp), h1⟩, by rw [if_pos h, List.length_cons, h2]; omega, fun a ha => ?_⟩
      rcases List.mem_cons.mp ha with rfl | ha
      · exact ⟨List.mem_cons_self, h.2, h.1⟩
      · obtain ⟨q1, q2, q3⟩ := h3 a ha
        exact ⟨List.mem_cons_of_mem _ q1, fun q => q2 (by simp [q]), q3⟩
    · refine ⟨l, h1, by rw [if_neg h, h2]; omega, fun a ha => ?_⟩
      obtain ⟨q1, q2, q3⟩ := h3 a ha
      exact ⟨List.mem_cons_of_mem _ q1, fun q => q2 (by simp [q]), q3⟩
/-- neighbours alike among the letters of p are at most as many as the others -/
theorem dup_le {p : Nat → Bool} {w : List Nat} (hn : Nr w) (hf : ∀ a b, p a = true → p b = false → ¬ List.Sublist [b, a, b, a] w) : ∃ l : List Nat, l.Nodup ∧ (∀ a ∈ l, a ∈ w ∧ p a = false) ∧ dups (w.filter p) ≤ l.length := by
  obtain ⟨l, h1, h2, h3⟩ := fst_le p w []
  refine ⟨l, h1, fun a ha => ⟨(h3 a ha).1, (h3 a ha).2.2⟩, ?_⟩
  rw [h2, ← dupA_none]
  exact (dupA_le p w [] hn hf).1 [] rfl (by simp)
