/-! words read from behind -/
theorem dups_snoc : ∀ (w : List Nat) (b a : Nat), dups (w ++ [b, a]) = dups (w ++ [b]) + (if b = a then 1 else 0) := by
  intro w
  induction w with
  | nil => intro b a; simp [dups]
  | cons x t ih =>
    intro b a
    cases t with
    | nil =>
      have := ih b a
      simp [dups] at this ⊢
    | cons y t =>
      have := ih b a
      simp only [List.cons_append, dups] at this ⊢
      omega
theorem dups_rev : ∀ (w : List Nat), dups w.reverse = dups w := by
  intro w
  induction w with
  | nil => rfl
  | cons a t ih =>
    cases t with
    | nil => rfl
    | cons b t =>
      simp only [List.reverse_cons, List.append_assoc, List.cons_append, List.nil_append] at ih ⊢
      rw [dups_snoc, ih]
      simp only [dups]
      by_cases h : a = b
      · rw [if_pos h, if_pos h.symm]; omega
      · rw [if_neg h, if_neg (Ne.symm h)]; omega
theorem Nr_dups : ∀ (w : List Nat), Nr w ↔ dups w = 0 := by
  intro w
  induction w with
  | nil => simp [Nr, dups]
  | cons a t ih =>
    cases t with
    | nil => simp [Nr, dups]
    | cons b t =>
      simp only [Nr, dups]
      rw [ih]
      by_cases h : a = b
      · simp [h]
      · simp [h]
theorem Nr_rev {w : List Nat} (h : Nr w) : Nr w.reverse := by rw [Nr_dups, dups_rev, ← Nr_dups]; exact h
/-- no word of these: a high letter, a low one, the high, the low; of one family none comes back behind another one -/
def GoodW (g : Nat → Nat) (w : List Nat) : Prop := (∀ s t, g s < g t → ¬ List.Sublist [t, s, t, s] w) ∧ (∀ s t, s ≠ t → g s = g t → ¬ List.Sublist [t, s, t] w)
theorem GoodW.sub {g : Nat → Nat} {w u : List Nat} (h : GoodW g w) (hs : List.Sublist u w) : GoodW g u := ⟨fun s t q r => h.1 s t q (r.trans hs), fun s t q q2 r => h.2 s t q q2 (r.trans hs)⟩
def tau : Nat → Nat → Nat
  | 0, G => G
  | k + 1, G => if G ≤ 1 then G else tau k (G / 2) + tau k (G - G / 2) + G
theorem len_split (p : Nat → Bool) : ∀ (w : List Nat), w.length = (w.filter p).length + (w.filter (fun x => !p x)).length := by
  intro w
  induction w with
  | nil => rfl
  | cons a t ih =>
    by_cases h : p a = true
    · simp [h]; omega
    · simp [h]; omega
theorem nodup_of : ∀ {w : List Nat}, Nr w → (∀ s t, s ∈ w → t ∈ w → s ≠ t → ¬ List.Sublist [t, s, t] w) → w.Nodup := by
  intro w
  induction w with
  | nil => intro _ _; exact List.nodup_nil
  | cons a t ih =>
    intro hn hg
    refine List.nodup_cons.mpr ⟨fun hm => ?_, ih (Nr.tail hn) (fun s u hs hu hne hsub => hg s u (List.mem_cons_of_mem _ hs) (List.mem_cons_of_mem _ hu) hne (List.Sublist.cons _ hsub))⟩
    cases t with
    | nil => cases hm
    | cons b t =>
      have hab : a ≠ b := hn.1
      have hm2 : a ∈ t := by
        rcases List.mem_cons.mp hm with q | q
        · exact absurd q hab
        · exact q
      exact hg b a (by simp) List.mem_cons_self (Ne.symm hab) (List.Sublist.cons₂ _ (List.Sublist.cons₂ _ (List.singleton_sublist.mpr hm2)))
theorem fam_le {c : Nat} {g : Nat → Nat} {S : Nat → Prop} (hc : ∀ (y : Nat) (l : List Nat), l.Nodup → (∀ x ∈ l, g x = y ∧ S x) → l.length ≤ c) : ∀ (G a : Nat) (l : List Nat), l.Nodup → (∀ x ∈ l, a ≤ g x ∧ g x < a + G ∧ S x) → l.length ≤ c * G := by
  intro G
  induction G with
  | zero =>
    intro a l hl hx
    cases l with
    | nil => simp
    | cons y t => have := hx y List.mem_cons_self; omega
  | succ G ih =>
    intro a l hl hx
    rw [len_split (fun x => decide (g x < a + G)) l]
    have h1 := ih a (l.filter (fun x => decide (g x < a + G))) (hl.filter _) (fun x hm => by
      have hm := List.mem_filter.mp hm
      have := hx x hm.1
      exact ⟨this.1, by simpa using hm.2, this.2.2⟩)
    have h2 := hc (a + G) (l.filter (fun x => !decide (g x < a + G))) (hl.filter _) (fun x hm => by
      have hm := List.mem_filter.mp hm
      have := hx x hm.1
      have q : ¬ g x < a + G := by simpa using hm.2
      exact ⟨by omega, this.2.2⟩)
    rw [Nat.mul_succ]
    omega
theorem words_le {c : Nat} {g : Nat → Nat} {S : Nat → Prop} (hc : ∀ (y : Nat) (l : List Nat), l.Nodup → (∀ x ∈ l, g x = y ∧ S x) → l.length ≤ c) : ∀ (k G a : Nat) (w : List Nat), G ≤ 2 ^ k → (∀ x ∈ w, a ≤ g x ∧ g x < a + G ∧ S x) → Nr w → GoodW g w → w.length ≤ c * tau k G := by
  intro k
  have base : ∀ (G a : Nat) (w : List Nat), G ≤ 1 → (∀ x ∈ w, a ≤ g x ∧ g x < a + G ∧ S x) → Nr w → GoodW g w → w.length ≤ c * G := by
    intro G a w hG hw hn hg
    refine fam_le hc G a w (nodup_of hn (fun s t hs ht hne => hg.2 s t hne ?_)) hw
    have h1 := hw s hs
    have h2 := hw t ht
    omega
  induction k with
  | zero => intro G a w hG hw hn hg; exact base G a w (by simpa using hG) hw hn hg
  | succ k ih =>
    intro G a w hG hw hn hg
    unfold tau
    split
    · rename_i h1
      exact base G a w h1 hw hn hg
    · rename_i h1
      have e1 : G / 2 ≤ 2 ^ k := by rw [Nat.pow_succ] at hG; omega
      have e2 : G - G / 2 ≤ 2 ^ k := by rw [Nat.pow_succ] at hG; omega
      have pl : ∀ x, (fun x => decide (g x < a + G / 2)) x = true ↔ g x < a + G / 2 := fun x => by simp
      have l1 := ih (G / 2) a (dd (w.filter (fun x => decide (g x < a + G / 2)))) e1 (fun x hx => by
        have hx := List.mem_filter.mp ((dd_sub _).subset hx)
        have := hw x hx.1
        exact ⟨this.1, by simpa using hx.2, this.2.2⟩) (dd_nr _) (hg.sub ((dd_sub _).trans List.filter_sublist))
      have l2 := ih (G - G / 2) (a + G / 2) (dd (w.filter (fun x => !decide (g x < a + G / 2)))) e2 (fun x hx => by
        have hx := List.mem_filter.mp ((dd_sub _).subset hx)
        have := hw x hx.1
        have q : ¬ g x < a + G / 2 := by simpa using hx.2
        exact ⟨by omega, by omega, this.2.2⟩) (dd_nr _) (hg.sub ((dd_sub _).trans List.filter_sublist))
      obtain ⟨u1, n1, m1, d1⟩ := dup_le (p := fun x => decide (g x < a + G / 2)) (w := w) hn (fun y z hy hz => hg.1 y z (by
        have q1 : g y < a + G / 2 := by simpa using hy
        have q2 : ¬ g z < a + G / 2 := by simpa using hz
        omega))
      have c1 := fam_le hc (G - G / 2) (a + G / 2) u1 n1 (fun x hx => by
        have q := m1 x hx
        have := hw x q.1
        have q2 : ¬ g x < a + G / 2 := by simpa using q.2
        exact ⟨by omega, by omega, this.2.2⟩)
      obtain ⟨u2, n2, m2, d2⟩ := dup_le (p := fun x => !decide (g x < a + G / 2)) (w := w.reverse) (Nr_rev hn) (fun y z hy hz hsub => hg.1 z y (by
        have q1 : ¬ g y < a + G / 2 := by simpa using hy
        have q2 : g z < a + G / 2 := by simpa using hz
        omega) (by
        have := List.reverse_sublist.mpr hsub
        simpa using this))
      have c2 := fam_le hc (G / 2) a u2 n2 (fun x hx => by
        have q := m2 x hx
        have := hw x (List.mem_reverse.mp q.1)
        have q2 : g x < a + G / 2 := by simpa using q.2
        exact ⟨this.1, q2, this.2.2⟩)
      rw [List.filter_reverse, dups_rev] at d2
      rw [len_split (fun x => decide (g x < a + G / 2)) w, dd_len (w.filter (fun x => decide (g x < a + G / 2))), dd_len (w.filter (fun x => !decide (g x < a + G / 2)))]
      rw [Nat.mul_add, Nat.mul_add]
      have e3 : c * (G / 2) + c * (G - G / 2) = c * G := by rw [← Nat.mul_add]; congr 1; omega
      omega
theorem tau_22 : tau 5 22 = 122 := by decide
