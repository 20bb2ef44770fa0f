/-! PIECES OF LIVE LINES ALONE: families by source -/
theorem lvt_lt {L : Nat → Ln} {x : Rat} {k : Nat} (h : lv L true x k) : lnF (L k) < lnT (L k) := by
  have := lvt.mp h
  exact Rat.intCast_lt_intCast.mp (by grind)
def FamL (L : Nat → Ln) (n : Nat) (g : Nat → Nat) : Prop := ∀ s t, s < n → t < n → lnF (L s) < lnT (L s) → lnF (L t) < lnT (L t) → (g s < g t → sl (L s) ≤ sl (L t)) ∧ (s ≠ t → g s = g t → Fam2 L s t)
theorem env_goodL {L : Nat → Ln} {n : Nat} {ps : List Pie} {g : Nat → Nat} (he : EnvN L n ps) (hf : FamL L n g) : GoodW g (ps.map (fun q => q.2.2)) := by
  constructor
  · intro s t hst hsub
    obtain ⟨l, hl, e⟩ := List.sublist_map_iff.mp hsub
    obtain ⟨q1, q2, q3, q4, rfl⟩ := len4 (show l.length = 4 by have := congrArg List.length e; simpa using this.symm)
    · simp only [List.map_cons, List.map_nil, List.cons.injEq, and_true] at e
      obtain ⟨e1, e2, e3, e4⟩ := e
      have pw := (env_ends he).sublist hl
      rw [List.pairwise_cons, List.pairwise_cons, List.pairwise_cons] at pw
      obtain ⟨pa, pb, pd, -⟩ := pw
      have o1 := pa q2 (by simp)
      have o4 := pb q3 (by simp)
      have o6 := pd q4 (by simp)
      have w1 := (pie_low he (hl.subset (show q1 ∈ [q1, q2, q3, q4] by simp))).2
      have w2 := (pie_low he (hl.subset (show q2 ∈ [q1, q2, q3, q4] by simp))).2
      have w3 := (pie_low he (hl.subset (show q3 ∈ [q1, q2, q3, q4] by simp))).2
      have w4 := (pie_low he (hl.subset (show q4 ∈ [q1, q2, q3, q4] by simp))).2
      rw [← e1] at w1
      rw [← e2] at w2
      rw [← e3] at w3
      rw [← e4] at w4
      have l1 := lvt.mp w1.2.1
      have l2 := lvt.mp w2.2.1
      have l3 := lvt.mp w3.2.1
      have l4 := lvt.mp w4.2.1
      have hne : s ≠ t := fun q => by rw [q] at hst; omega
      have b2 := btt (w2.2.2 t w3.1 (lvt.mpr ⟨by grind, by grind⟩) (Ne.symm hne))
      have b3 := btt (w3.2.2 s w2.1 (lvt.mpr ⟨by grind, by grind⟩) hne)
      have hsl := (hf s t w2.1 w3.1 (lvt_lt w2.2.1) (lvt_lt w3.2.1)).1 hst
      have ev := vd (L t) (L s) q2.2.1 q3.2.1
      have := Rat.mul_nonneg (show 0 ≤ sl (L t) - sl (L s) by grind) (show 0 ≤ q3.2.1 - q2.2.1 by grind)
      have z1 : vl (L t) q3.2.1 = vl (L s) q3.2.1 := by grind
      have z2 : (sl (L t) - sl (L s)) * (q3.2.1 - q2.2.1) = 0 := by grind
      have z3 : vl (L s) q2.2.1 = vl (L t) q2.2.1 := by grind
      have z4 : sl (L t) = sl (L s) := by
        rcases Rat.mul_eq_zero.mp z2 with q | q <;> grind
      have y1 := (b3.2 z1).2 z4.symm
      have y2 := (b2.2 z3).2 z4
      omega
  · intro s t hne hst hsub
    obtain ⟨l, hl, e⟩ := List.sublist_map_iff.mp hsub
    obtain ⟨q1, q2, q3, rfl⟩ := len3 (show l.length = 3 by have := congrArg List.length e; simpa using this.symm)
    · simp only [List.map_cons, List.map_nil, List.cons.injEq, and_true] at e
      obtain ⟨e1, e2, e3⟩ := e
      have pw := (env_ends he).sublist hl
      rw [List.pairwise_cons, List.pairwise_cons] at pw
      obtain ⟨pa, pb, -⟩ := pw
      have o1 := pa q2 (by simp)
      have o4 := pb q3 (by simp)
      have w1 := (pie_low he (hl.subset (show q1 ∈ [q1, q2, q3] by simp))).2
      have w2 := (pie_low he (hl.subset (show q2 ∈ [q1, q2, q3] by simp))).2
      have w3 := (pie_low he (hl.subset (show q3 ∈ [q1, q2, q3] by simp))).2
      rw [← e1] at w1
      rw [← e2] at w2
      rw [← e3] at w3
      have l1 := lvt.mp w1.2.1
      have l2 := lvt.mp w2.2.1
      have l3 := lvt.mp w3.2.1
      have lt2 : lv L true q2.2.1 t := lvt.mpr ⟨by grind, by grind⟩
      rcases (hf s t w2.1 w3.1 (lvt_lt w2.2.1) (lvt_lt w3.2.1)).2 hne hst with hd | ⟨hs1, hs2⟩
      · exact hd _ ⟨w2.2.1, lt2⟩
      · have b2 := btt (w2.2.2 t w3.1 lt2 (Ne.symm hne))
        have hlen : (lnT (L s) : Rat) - (lnF (L s) : Rat) = (lnT (L t) : Rat) - (lnF (L t) : Rat) := by
          rw [← Rat.intCast_sub, ← Rat.intCast_sub, hs2]
        have fin : ∀ z, lv L true z s → bt L true z t s → False := by
          intro z hz hb
          have b := btt hb
          have ev := vd (L t) (L s) q2.2.1 z
          have z2 : (sl (L t) - sl (L s)) * (z - q2.2.1) = 0 := by rw [hs1]; grind
          have z1 : vl (L t) z = vl (L s) z := by grind
          have z3 : vl (L s) q2.2.1 = vl (L t) q2.2.1 := by grind
          have y1 := (b.2 z1).2 hs1
          have y2 := (b2.2 z3).2 hs1.symm
          omega
        rcases (show (lnF (L s) : Rat) < q1.2.1 ∨ q1.2.1 ≤ (lnF (L s) : Rat) by grind) with h | h
        · have ls : lv L true q1.2.1 s := lvt.mpr ⟨h, by grind⟩
          exact fin _ ls (w1.2.2 s w2.1 ls hne)
        · have ls : lv L true q3.2.1 s := lvt.mpr ⟨by grind, by grind⟩
          exact fin _ ls (w3.2.2 s w2.1 ls hne)
theorem pies_leL {L : Nat → Ln} {n : Nat} {ps : List Pie} {g : Nat → Nat} {c k G : Nat} (he : EnvN L n ps) (hf : FamL L n g) (hG : ∀ s, s < n → lnF (L s) < lnT (L s) → g s < G) (hk : G ≤ 2 ^ k) (hc : ∀ (y : Nat) (l : List Nat), l.Nodup → (∀ x ∈ l, g x = y ∧ (x < n ∧ lnF (L x) < lnT (L x))) → l.length ≤ c) : ps.length ≤ c * tau k G := by
  have h := words_le (S := fun x => x < n ∧ lnF (L x) < lnT (L x)) hc k G 0 (ps.map (fun q => q.2.2)) hk (fun x hx => by
    obtain ⟨q, hq, rfl⟩ := List.mem_map.mp hx
    have w := (pie_low he hq).2
    exact ⟨Nat.zero_le _, by have := hG _ w.1 (lvt_lt w.2.1); omega, w.1, lvt_lt w.2.1⟩) (env_nr he) (env_goodL he hf)
  rwa [List.length_map] at h
/-! ranks of sources that are lines -/
section RK
variable {L : Nat → Ln} {N : Nat} {pl : Nat → Bool}
def rkQ (L : Nat → Ln) (N : Nat) (pl : Nat → Bool) (s : Nat) : Nat := ((List.range N).filter (fun t => pl t && rkP L s t)).length
theorem rkq_lt {s t : Nat} (hs : s < N) (hp : pl s = true) (h : sl (L s) < sl (L t) ∨ (sl (L s) = sl (L t) ∧ s < t)) : rkQ L N pl s < rkQ L N pl t := by
  refine fl_lt (fun u hu => ?_) (a := s) ?_ ?_ _ (List.mem_range.mpr hs)
  · rw [Bool.and_eq_true] at hu ⊢
    refine ⟨hu.1, ?_⟩
    have hu := of_decide_eq_true hu.2
    refine decide_eq_true ?_
    rcases h with h | h <;> rcases hu with hu | hu
    · exact Or.inl (by grind)
    · exact Or.inl (by grind)
    · exact Or.inl (by grind)
    · exact Or.inr ⟨by grind, by omega⟩
  · rw [hp, Bool.true_and]
    exact decide_eq_true h
  · rw [hp, Bool.true_and]
    refine decide_eq_false (fun z => ?_)
    rcases z with z | z
    · grind
    · omega
theorem rkq_b {s : Nat} (hs : s < N) (hp : pl s = true) : rkQ L N pl s < ((List.range N).filter pl).length := by
  refine fl_lt (fun u hu => ?_) (a := s) hp ?_ _ (List.mem_range.mpr hs)
  · rw [Bool.and_eq_true] at hu
    exact hu.1
  · rw [hp, Bool.true_and]
    refine decide_eq_false (fun z => ?_)
    rcases z with z | z
    · grind
    · omega
theorem rkq_sl {s t : Nat} (ht : t < N) (hp : pl t = true) (h : rkQ L N pl s < rkQ L N pl t) : sl (L s) ≤ sl (L t) := by
  by_cases c : sl (L s) ≤ sl (L t)
  · exact c
  · have := rkq_lt (L := L) (s := t) (t := s) ht hp (Or.inl (by grind))
    omega
theorem rkq_in {s t : Nat} (hs : s < N) (hps : pl s = true) (ht : t < N) (hpt : pl t = true) (h : rkQ L N pl s = rkQ L N pl t) : s = t := by
  by_cases c : s = t
  · exact c
  · exfalso
    have tri : (sl (L s) < sl (L t) ∨ (sl (L s) = sl (L t) ∧ s < t)) ∨ (sl (L t) < sl (L s) ∨ (sl (L t) = sl (L s) ∧ t < s)) := by
      by_cases c1 : sl (L s) < sl (L t)
      · exact Or.inl (Or.inl c1)
      · by_cases c2 : sl (L t) < sl (L s)
        · exact Or.inr (Or.inl c2)
        · have c3 : sl (L s) = sl (L t) := by grind
          by_cases c4 : s < t
          · exact Or.inl (Or.inr ⟨c3, c4⟩)
          · exact Or.inr (Or.inr ⟨c3.symm, by omega⟩)
    rcases tri with z | z
    · have := rkq_lt hs hps z; omega
    · have := rkq_lt ht hpt z; omega
end RK
theorem idx_flt {α : Type} (p : α → Bool) (d : α) : ∀ l : List α, ((List.range l.length).filter (fun m => p ((l[m]?).getD d))).length = (l.filter p).length := by
  intro l
  induction l with
  | nil => rfl
  | cons a l ih =>
    rw [List.length_cons, List.range_succ_eq_map, List.filter_cons, List.filter_map, List.filter_cons]
    have e : ((fun m => p (((a :: l)[m]?).getD d)) ∘ Nat.succ) = fun m => p ((l[m]?).getD d) := by
      funext m; rfl
    rw [e]
    have e0 : p (((a :: l)[0]?).getD d) = p a := rfl
    rw [e0]
    cases p a with
    | true => rw [if_pos rfl, if_pos rfl, List.length_cons, List.length_cons, List.length_map, ih]
    | false => rw [if_neg (by decide), if_neg (by decide), List.length_map, ih]
theorem idx_cnt {ts l : List Nat} {t : Nat} (nd : l.Nodup) (h : ∀ m ∈ l, ts[m]? = some t) : l.length ≤ ts.count t := by
  have h1 := List.Nodup.length_le_of_subset (l₂ := (List.range ts.length).filter (fun m => ((ts[m]?).getD 0 == t))) nd (fun m hm => by
    have e := h m hm
    refine List.mem_filter.mpr ⟨List.mem_range.mpr (List.getElem?_eq_some_iff.mp e).1, ?_⟩
    rw [e]
    exact beq_self_eq_true t)
  have h2 := idx_flt (fun u => u == t) 0 ts
  rw [List.count_eq_length_filter]
  omega
