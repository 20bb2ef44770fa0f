/-! the pieces as a word over the lines -/
theorem lvt {L : Nat → Ln} {x : Rat} {k : Nat} : lv L true x k ↔ ((lnF (L k) : Rat) < x ∧ x ≤ (lnT (L k) : Rat)) := by
  unfold lv bey; simp; intro _; grind
theorem len4 {α : Type} {l : List α} (h : l.length = 4) : ∃ a b c d, l = [a, b, c, d] := by
  match l, h with
  | [a, b, c, d], _ => exact ⟨a, b, c, d, rfl⟩
theorem len3 {α : Type} {l : List α} (h : l.length = 3) : ∃ a b c, l = [a, b, c] := by
  match l, h with
  | [a, b, c], _ => exact ⟨a, b, c, rfl⟩
theorem btt {L : Nat → Ln} {x : Rat} {o m : Nat} (h : bt L true x o m) : vl (L o) x ≤ vl (L m) x ∧ (vl (L o) x = vl (L m) x → sl (L m) ≤ sl (L o) ∧ (sl (L m) = sl (L o) → o < m)) := by
  unfold bt at h
  simp at h
  grind
theorem pie_low {L : Nat → Ln} {n : Nat} {ps : List Pie} (he : EnvN L n ps) {q : Pie} (hq : q ∈ ps) : q.1 < q.2.1 ∧ Low L n true q.2.1 q.2.2 := by
  have h1 := he.1.1 q (List.mem_reverse.mpr hq)
  exact ⟨h1, (he.2 true q.2.1 q.2.2).mp ⟨q, hq, rfl, by unfold bey; simpa using h1, by unfold bey; simp⟩⟩
theorem env_srt {L : Nat → Ln} {n : Nat} {ps : List Pie} (he : EnvN L n ps) : ps.Pairwise (fun q r => q.2.1 ≤ r.1) := by
  have := he.1.2.1
  rw [List.pairwise_reverse] at this
  exact this
theorem env_ends {L : Nat → Ln} {n : Nat} {ps : List Pie} (he : EnvN L n ps) : ps.Pairwise (fun q r => q.2.1 < r.2.1) := by
  refine (env_srt he).imp_of_mem (fun {q r} hq hr h => ?_)
  have := (pie_low he hr).1
  grind
/-- two lines of one family: never over one cut, or of like slope and length -/
def Fam2 (L : Nat → Ln) (s t : Nat) : Prop := (∀ x, ¬ (lv L true x s ∧ lv L true x t)) ∨ (sl (L s) = sl (L t) ∧ lnT (L s) - lnF (L s) = lnT (L t) - lnF (L t))
def FamOk (L : Nat → Ln) (n : Nat) (g : Nat → Nat) : Prop := ∀ s t, s < n → t < n → (g s < g t → sl (L s) ≤ sl (L t)) ∧ (s ≠ t → g s = g t → Fam2 L s t)
theorem env_good {L : Nat → Ln} {n : Nat} {ps : List Pie} {g : Nat → Nat} (he : EnvN L n ps) (hf : FamOk L n g) : GoodW g (ps.map (fun q => q.2.2)) := by
  constructor
  · intro s t hst hsub
    obtain ⟨l, hl, e⟩ := List.sublist_map_iff.mp hsub
    obtain ⟨q1, q2, q3, q4, rfl⟩ := len4 (show l.length = 4 by have := congrArg List.length e; simpa using this.symm)
    · simp only [List.map_cons, List.map_nil, List.cons.injEq, and_true] at e
      obtain ⟨e1, e2, e3, e4⟩ := e
      have pw := (env_ends he).sublist hl
      rw [List.pairwise_cons, List.pairwise_cons, List.pairwise_cons] at pw
      obtain ⟨pa, pb, pd, -⟩ := pw
      have o1 := pa q2 (by simp)
      have o4 := pb q3 (by simp)
      have o6 := pd q4 (by simp)
      have w1 := (pie_low he (hl.subset (show q1 ∈ [q1, q2, q3, q4] by simp))).2
      have w2 := (pie_low he (hl.subset (show q2 ∈ [q1, q2, q3, q4] by simp))).2
      have w3 := (pie_low he (hl.subset (show q3 ∈ [q1, q2, q3, q4] by simp))).2
      have w4 := (pie_low he (hl.subset (show q4 ∈ [q1, q2, q3, q4] by simp))).2
      rw [← e1] at w1
      rw [← e2] at w2
      rw [← e3] at w3
      rw [← e4] at w4
      have l1 := lvt.mp w1.2.1
      have l2 := lvt.mp w2.2.1
      have l3 := lvt.mp w3.2.1
      have l4 := lvt.mp w4.2.1
      have hne : s ≠ t := fun q => by rw [q] at hst; omega
      have b2 := btt (w2.2.2 t w3.1 (lvt.mpr ⟨by grind, by grind⟩) (Ne.symm hne))
      have b3 := btt (w3.2.2 s w2.1 (lvt.mpr ⟨by grind, by grind⟩) hne)
      have hsl := (hf s t w2.1 w3.1).1 hst
      have ev := vd (L t) (L s) q2.2.1 q3.2.1
      have := Rat.mul_nonneg (show 0 ≤ sl (L t) - sl (L s) by grind) (show 0 ≤ q3.2.1 - q2.2.1 by grind)
      have z1 : vl (L t) q3.2.1 = vl (L s) q3.2.1 := by grind
      have z2 : (sl (L t) - sl (L s)) * (q3.2.1 - q2.2.1) = 0 := by grind
      have z3 : vl (L s) q2.2.1 = vl (L t) q2.2.1 := by grind
      have z4 : sl (L t) = sl (L s) := by
        rcases Rat.mul_eq_zero.mp z2 with q | q <;> grind
      have y1 := (b3.2 z1).2 z4.symm
      have y2 := (b2.2 z3).2 z4
      omega
  · intro s t hne hst hsub
    obtain ⟨l, hl, e⟩ := List.sublist_map_iff.mp hsub
    obtain ⟨q1, q2, q3, rfl⟩ := len3 (show l.length = 3 by have := congrArg List.length e; simpa using this.symm)
    · simp only [List.map_cons, List.map_nil, List.cons.injEq, and_true] at e
      obtain ⟨e1, e2, e3⟩ := e
      have pw := (env_ends he).sublist hl
      rw [List.pairwise_cons, List.pairwise_cons] at pw
      obtain ⟨pa, pb, -⟩ := pw
      have o1 := pa q2 (by simp)
      have o4 := pb q3 (by simp)
      have w1 := (pie_low he (hl.subset (show q1 ∈ [q1, q2, q3] by simp))).2
      have w2 := (pie_low he (hl.subset (show q2 ∈ [q1, q2, q3] by simp))).2
      have w3 := (pie_low he (hl.subset (show q3 ∈ [q1, q2, q3] by simp))).2
      rw [← e1] at w1
      rw [← e2] at w2
      rw [← e3] at w3
      have l1 := lvt.mp w1.2.1
      have l2 := lvt.mp w2.2.1
      have l3 := lvt.mp w3.2.1
      have lt2 : lv L true q2.2.1 t := lvt.mpr ⟨by grind, by grind⟩
      rcases (hf s t w2.1 w3.1).2 hne hst with hd | ⟨hs1, hs2⟩
      · exact hd _ ⟨w2.2.1, lt2⟩
      · have b2 := btt (w2.2.2 t w3.1 lt2 (Ne.symm hne))
        have hlen : (lnT (L s) : Rat) - (lnF (L s) : Rat) = (lnT (L t) : Rat) - (lnF (L t) : Rat) := by
          rw [← Rat.intCast_sub, ← Rat.intCast_sub, hs2]
        have fin : ∀ z, lv L true z s → bt L true z t s → False := by
          intro z hz hb
          have b := btt hb
          have ev := vd (L t) (L s) q2.2.1 z
          have z2 : (sl (L t) - sl (L s)) * (z - q2.2.1) = 0 := by rw [hs1]; grind
          have z1 : vl (L t) z = vl (L s) z := by grind
          have z3 : vl (L s) q2.2.1 = vl (L t) q2.2.1 := by grind
          have y1 := (b.2 z1).2 hs1
          have y2 := (b2.2 z3).2 hs1.symm
          omega
        rcases (show (lnF (L s) : Rat) < q1.2.1 ∨ q1.2.1 ≤ (lnF (L s) : Rat) by grind) with h | h
        · have ls : lv L true q1.2.1 s := lvt.mpr ⟨h, by grind⟩
          exact fin _ ls (w1.2.2 s w2.1 ls hne)
        · have ls : lv L true q3.2.1 s := lvt.mpr ⟨by grind, by grind⟩
          exact fin _ ls (w3.2.2 s w2.1 ls hne)
theorem env_nr {L : Nat → Ln} {n : Nat} {ps : List Pie} (he : EnvN L n ps) : Nr (ps.map (fun q => q.2.2)) := by
  have hp := env_srt he
  have ht : ps.Pairwise (fun q r => q.2.1 = r.1 → q.2.2 ≠ r.2.2) := by
    have := he.1.2.2
    rw [List.pairwise_reverse] at this
    exact this
  have all : ∀ q ∈ ps, q ∈ ps := fun q h => h
  have key : ∀ (ts : List Pie), List.Sublist ts ps → (∀ q r u v, ts = u ++ q :: r :: v → q.2.2 ≠ r.2.2) → Nr (ts.map (fun q => q.2.2)) := by
    intro ts
    induction ts with
    | nil => intro _ _; trivial
    | cons q t ih =>
      intro hs hh
      cases t with
      | nil => trivial
      | cons r t =>
        refine ⟨hh q r [] t rfl, ih ((List.sublist_cons_self _ _).trans hs) (fun q' r' u v e => hh q' r' (q :: u) v (by rw [e]; rfl))⟩
  refine key ps (List.Sublist.refl _) (fun q r u v e hqr => ?_)
  have hq : q ∈ ps := by rw [e]; simp
  have hr : r ∈ ps := by rw [e]; simp
  have pq := pie_low he hq
  have pr := pie_low he hr
  have h1 : q.2.1 ≤ r.1 := by
    rw [e, List.pairwise_append] at hp
    have := hp.2.1
    rw [List.pairwise_cons] at this
    exact this.1 r List.mem_cons_self
  have h2 : q.2.1 = r.1 → q.2.2 ≠ r.2.2 := by
    rw [e, List.pairwise_append] at ht
    have := ht.2.1
    rw [List.pairwise_cons] at this
    exact this.1 r List.mem_cons_self
  rcases (show q.2.1 = r.1 ∨ q.2.1 < r.1 by grind) with h | h
  · exact h2 h hqr
  · -- between them the line goes on, and no piece is there
    have l1 := lvt.mp pq.2.2.1
    have l2 := lvt.mp pr.2.2.1
    rw [← hqr] at l2
    obtain ⟨o, ho⟩ := Low_ex (L := L) (sd := true) (x := r.1) pq.2.1 (lvt.mpr ⟨by grind, by grind⟩)
    obtain ⟨z, hz, -, z2, z3⟩ := (he.2 true r.1 o).mpr ho
    unfold bey at z2 z3
    simp at z2 z3
    have vz := (pie_low he hz).1
    rw [e] at hz
    rw [e, List.pairwise_append] at hp
    obtain ⟨p1, p2, p3⟩ := hp
    rw [List.pairwise_cons, List.pairwise_cons] at p2
    rcases List.mem_append.mp hz with m | m
    · have := p3 z m q List.mem_cons_self
      grind
    · rcases List.mem_cons.mp m with rfl | m
      · grind
      · rcases List.mem_cons.mp m with rfl | m
        · grind
        · have := p2.2.1 z m
          grind
/-- how many pieces: families in the order of their slopes, at most c lines each -/
theorem pies_le {L : Nat → Ln} {n : Nat} {ps : List Pie} {g : Nat → Nat} {c k G : Nat} (he : EnvN L n ps) (hf : FamOk L n g) (hG : ∀ s, s < n → g s < G) (hk : G ≤ 2 ^ k) (hc : ∀ (y : Nat) (l : List Nat), l.Nodup → (∀ x ∈ l, g x = y ∧ x < n) → l.length ≤ c) : ps.length ≤ c * tau k G := by
  have h := words_le (S := fun x => x < n) hc k G 0 (ps.map (fun q => q.2.2)) hk (fun x hx => by
    obtain ⟨q, hq, rfl⟩ := List.mem_map.mp hx
    have := (pie_low he hq).2.1
    exact ⟨Nat.zero_le _, by have := hG _ this; omega, this⟩) (env_nr he) (env_good he hf)
  rwa [List.length_map] at h
