/-! THE CLASS' WAY: from x to x, between them from crossing to crossing -/
def LwW (L : Nat → Ln) (n : Nat) (sd : Bool) (x : Rat) (o : Nat) : Prop := o < n ∧ lv L sd x o ∧ ∀ m, m < n → lv L sd x m → vl (L o) x < vl (L m) x ∨ (vl (L o) x = vl (L m) x ∧ ((sd = true → sl (L m) ≤ sl (L o)) ∧ (sd = false → sl (L o) ≤ sl (L m))))
theorem LwW_Sd {L : Nat → Ln} {n : Nat} {sd : Bool} {x : Rat} {o : Nat} (h : LwW L n sd x o) : Sd L n sd x (some (vl (L o) x, sl (L o))) := by
  obtain ⟨p, hp⟩ := Low_ex h.1 h.2.1
  refine ⟨p, hp, ?_⟩
  by_cases e : o = p
  · rw [e]
  · have h1 := hp.2.2 o h.1 h.2.1 e
    have h2 := h.2.2 p hp.1 hp.2.1
    unfold bt at h1
    have : vl (L o) x = vl (L p) x ∧ sl (L o) = sl (L p) := by cases sd <;> simp at h1 h2 <;> grind
    rw [this.1, this.2]
theorem Sd_no {L : Nat → Ln} {n : Nat} {sd : Bool} {x : Rat} (h : ∀ k, k < n → ¬ lv L sd x k) : Sd L n sd x none := fun o ho => h o ho.1 ho.2.1
/-- the lines that go on behind x -/
def Vs (L : Nat → Ln) (n : Nat) (x : Rat) (k : Nat) : Prop := k < n ∧ (lnF (L k) : Rat) ≤ x ∧ x < (lnT (L k) : Rat)
def NoEv (L : Nat → Ln) (n : Nat) (x y : Rat) : Prop := x < y ∧ ∀ k, k < n → ((lnF (L k) : Rat) ≤ x ∨ y ≤ (lnF (L k) : Rat)) ∧ ((lnT (L k) : Rat) ≤ x ∨ y ≤ (lnT (L k) : Rat))
theorem lv_mid {L : Nat → Ln} {n : Nat} {x y z : Rat} {sd : Bool} {k : Nat} (h : NoEv L n x y) (hk : k < n) (h1 : sd = true → x < z ∧ z ≤ y) (h2 : sd = false → x ≤ z ∧ z < y) : lv L sd z k ↔ Vs L n x k := by
  obtain ⟨h3, h4⟩ := h
  have := h4 k hk
  unfold lv Vs bey
  cases sd <;> simp [hk] at h1 h2 ⊢ <;> grind
/-- lowest of those behind z0 -/
def Wz (L : Nat → Ln) (n : Nat) (x z0 : Rat) (o : Nat) : Prop := Vs L n x o ∧ ∀ m, Vs L n x m → vl (L o) z0 < vl (L m) z0 ∨ (vl (L o) z0 = vl (L m) z0 ∧ sl (L o) ≤ sl (L m))
theorem cr_d {L : Nat → Ln} {o m : Nat} (h : sl (L m) < sl (L o)) (z : Rat) : vl (L m) z - vl (L o) z = (sl (L o) - sl (L m)) * (cr L o m - z) := by
  have e := cr_at (L := L) (l := o) (o := m) (by grind)
  have e2 := vd (L m) (L o) (cr L o m) z
  generalize cr L o m = c at *
  grind
/-- against one line: behind z0, ahead of its crossing -/
theorem fol_one {L : Nat → Ln} {n : Nat} {x z0 z : Rat} {o m : Nat} (h : Wz L n x z0 o) (hm : Vs L n x m) (hz : z0 < z) (hc : sl (L m) < sl (L o) → z ≤ cr L o m) : vl (L o) z < vl (L m) z ∨ (vl (L o) z = vl (L m) z ∧ (sl (L m) = sl (L o) ∨ (sl (L m) < sl (L o) ∧ z = cr L o m))) := by
  rcases (show sl (L m) < sl (L o) ∨ sl (L o) ≤ sl (L m) by grind) with q | q
  · have e := cr_d q z
    have hz2 := hc q
    rcases (show z < cr L o m ∨ z = cr L o m by grind) with r | r
    · have := Rat.mul_pos (show 0 < sl (L o) - sl (L m) by grind) (show 0 < cr L o m - z by grind)
      left; grind
    · right
      refine ⟨?_, Or.inr ⟨q, r⟩⟩
      rw [← r] at e
      grind
  · have e := vd (L m) (L o) z0 z
    have h0 := h.2 m hm
    rcases (show sl (L m) = sl (L o) ∨ sl (L o) < sl (L m) by grind) with r | r
    · rw [r] at e
      rcases h0 with h1 | h1
      · left; grind
      · right; exact ⟨by grind, Or.inl r⟩
    · have := Rat.mul_pos (show 0 < sl (L m) - sl (L o) by grind) (show 0 < z - z0 by grind)
      left
      rcases h0 with h1 | h1 <;> grind
theorem no_lone {L : Nat → Ln} {n : Nat} {x y z : Rat} (h : NoEv L n x y) (h1 : x < z) (h2 : z < y) : Sp L n z none := by
  intro k hk hl
  have := h.2 k hk
  unfold isLone at hl
  grind
/-- nothing is there as long as the lowest stays -/
theorem fol_mid {L : Nat → Ln} {n : Nat} {x y z0 z c : Rat} {o : Nat} {k : List Kn} (hn : NoEv L n x y) (h : Wz L n x z0 o) (hx : x ≤ z0) (hz : z0 < z) (hzc : z < c) (hcy : c ≤ y) (hc : ∀ m, Vs L n x m → sl (L m) < sl (L o) → c ≤ cr L o m) (hk : KA L n z k) : k = [] := by
  have w : ∀ sd, LwW L n sd z o := by
    intro sd
    have lm : ∀ m, m < n → (lv L sd z m ↔ Vs L n x m) := fun m hm => lv_mid hn hm (fun _ => ⟨by grind, by grind⟩) (fun _ => ⟨by grind, by grind⟩)
    refine ⟨h.1.1, (lm o h.1.1).mpr h.1, fun m hm hv => ?_⟩
    have hvm := (lm m hm).mp hv
    rcases fol_one h hvm hz (fun q => by have := hc m hvm q; grind) with r | ⟨r, r2 | r2⟩
    · exact Or.inl r
    · exact Or.inr ⟨r, fun _ => by grind, fun _ => by grind⟩
    · have := hc m hvm r2.1
      grind
  obtain ⟨a, b, p, ha, hb, hp, rfl⟩ := hk
  rw [Sd_one ha (LwW_Sd (w true)), Sd_one hb (LwW_Sd (w false)), Sp_one hp (no_lone hn (by grind) (by grind))]
  simp [kno, loneB, meetsB, strB]
/-- at the first crossing -/
theorem fol_at {L : Nat → Ln} {n : Nat} {x y z0 c : Rat} {o th : Nat} (hn : NoEv L n x y) (h : Wz L n x z0 o) (hx : x ≤ z0) (hz : z0 < c) (hcy : c < y) (hc : ∀ m, Vs L n x m → sl (L m) < sl (L o) → c ≤ cr L o m) (ht : Vs L n x th) (ht2 : sl (L th) < sl (L o)) (ht3 : cr L o th = c) (ht4 : ∀ m, Vs L n x m → sl (L m) < sl (L o) → cr L o m = c → sl (L th) ≤ sl (L m)) : KA L n c [(c, vl (L th) c, true)] ∧ Wz L n x c th := by
  have e := cr_d ht2 c
  rw [ht3] at e
  have ev : vl (L th) c = vl (L o) c := by grind
  have lm : ∀ sd m, m < n → (lv L sd c m ↔ Vs L n x m) := fun sd m hm => lv_mid hn hm (fun _ => ⟨by grind, by grind⟩) (fun _ => ⟨by grind, by grind⟩)
  have w1 : LwW L n true c o := by
    refine ⟨h.1.1, (lm true o h.1.1).mpr h.1, fun m hm hv => ?_⟩
    have hvm := (lm true m hm).mp hv
    rcases fol_one h hvm hz (fun q => hc m hvm q) with r | ⟨r, r2 | r2⟩
    · exact Or.inl r
    · exact Or.inr ⟨r, fun _ => by grind, fun q => by cases q⟩
    · exact Or.inr ⟨r, fun _ => by grind, fun q => by cases q⟩
  have w2 : Wz L n x c th := by
    refine ⟨ht, fun m hvm => ?_⟩
    rcases fol_one h hvm hz (fun q => hc m hvm q) with r | ⟨r, r2 | r2⟩
    · left; grind
    · right; exact ⟨by grind, by grind⟩
    · right; exact ⟨by grind, ht4 m hvm r2.1 r2.2.symm⟩
  have w3 : LwW L n false c th := by
    refine ⟨ht.1, (lm false th ht.1).mpr ht, fun m hm hv => ?_⟩
    rcases w2.2 m ((lm false m hm).mp hv) with r | r
    · exact Or.inl r
    · exact Or.inr ⟨r.1, (fun q => by cases q), fun _ => r.2⟩
  refine ⟨⟨_, _, _, LwW_Sd w1, LwW_Sd w3, no_lone hn (by grind) hcy, ?_⟩, w2⟩
  have : ¬ sl (L o) = sl (L th) := by grind
  simp [kno, loneB, meetsB, strB, ev, this]
/-- ahead of the next x -/
theorem fol_end {L : Nat → Ln} {n : Nat} {x y z0 : Rat} {o : Nat} (hn : NoEv L n x y) (h : Wz L n x z0 o) (hx : x ≤ z0) (hz : z0 < y) (hc : ∀ m, Vs L n x m → sl (L m) < sl (L o) → y ≤ cr L o m) : LwW L n true y o := by
  have lm : ∀ m, m < n → (lv L true y m ↔ Vs L n x m) := fun m hm => lv_mid hn hm (fun _ => ⟨by grind, by grind⟩) (fun q => by cases q)
  refine ⟨h.1.1, (lm o h.1.1).mpr h.1, fun m hm hv => ?_⟩
  have hvm := (lm m hm).mp hv
  rcases fol_one h hvm hz (fun q => hc m hvm q) with r | ⟨r, r2 | r2⟩
  · exact Or.inl r
  · exact Or.inr ⟨r, fun _ => by grind, fun q => by cases q⟩
  · exact Or.inr ⟨r, fun _ => by grind, fun q => by cases q⟩
/-! a paper so far -/
def Upto (L : Nat → Ln) (n : Nat) (z0 : Rat) (ks : List Kn) : Prop := ∃ (xs : List Rat) (f : Rat → List Kn), xs.Pairwise (fun a b => a < b) ∧ (∀ x ∈ xs, x ≤ z0) ∧ (∀ x k, x ≤ z0 → KA L n x k → k ≠ [] → x ∈ xs) ∧ (∀ x ∈ xs, KA L n x (f x)) ∧ ks = xs.flatMap f
theorem Upto.go {L : Nat → Ln} {n : Nat} {z0 z1 : Rat} {ks k1 : List Kn} (h : Upto L n z0 ks) (hz : z0 < z1) (hm : ∀ z k, z0 < z → z < z1 → KA L n z k → k = []) (h1 : KA L n z1 k1) : Upto L n z1 (ks ++ k1) := by
  obtain ⟨xs, f, a1, a2, a3, a4, rfl⟩ := h
  refine ⟨xs ++ [z1], fun z => if z = z1 then k1 else f z, ?_, ?_, ?_, ?_, ?_⟩
  · refine List.pairwise_append.mpr ⟨a1, List.pairwise_singleton _ _, fun a ha b hb => ?_⟩
    rw [List.mem_singleton.mp hb]
    have := a2 a ha
    grind
  · intro x hx
    rcases List.mem_append.mp hx with q | q
    · have := a2 x q; grind
    · rw [List.mem_singleton.mp q]; grind
  · intro x k hx hk hne
    rcases (show x ≤ z0 ∨ (z0 < x ∧ x < z1) ∨ x = z1 by grind) with q | q | q
    · exact List.mem_append_left _ (a3 x k q hk hne)
    · exact absurd (hm x k q.1 q.2 hk) hne
    · rw [q]; simp
  · intro x hx
    show KA L n x (if x = z1 then k1 else f x)
    by_cases e : x = z1
    · rw [if_pos e, e]; exact h1
    · rw [if_neg e]
      rcases List.mem_append.mp hx with q | q
      · exact a4 x q
      · exact absurd (List.mem_singleton.mp q) e
  · rw [List.flatMap_append]
    congr 1
    · exact flat_cong (fun x hx => by rw [if_neg (by have := a2 x hx; grind)])
    · simp
theorem Upto.done {L : Nat → Ln} {n : Nat} {z0 : Rat} {ks : List Kn} (h : Upto L n z0 ks) (hm : ∀ z k, z0 < z → KA L n z k → k = []) : PaperIs L n ks := by
  obtain ⟨xs, f, a1, a2, a3, a4, e⟩ := h
  refine ⟨xs, f, a1, fun x k hk hne => ?_, a4, e⟩
  rcases (show x ≤ z0 ∨ z0 < x by grind) with q | q
  · exact a3 x k q hk hne
  · exact absurd (hm x k q hk) hne
theorem Upto.nil {L : Nat → Ln} {n : Nat} {z0 : Rat} (hm : ∀ z k, z ≤ z0 → KA L n z k → k = []) : Upto L n z0 [] :=
  ⟨[], fun _ => [], List.Pairwise.nil, by simp, fun x k hx hk hne => absurd (hm x k hx hk) hne, by simp, rfl⟩
/-- nothing goes there -/
theorem KA_none {L : Nat → Ln} {n : Nat} {z : Rat} {k : List Kn} (h : ∀ m, m < n → z < (lnF (L m) : Rat) ∨ (lnT (L m) : Rat) < z) (hk : KA L n z k) : k = [] := by
  obtain ⟨a, b, c, ha, hb, hc, rfl⟩ := hk
  have n1 : ∀ sd k, k < n → ¬ lv L sd z k := by
    intro sd k hk hv
    have := h k hk
    unfold lv bey at hv
    cases sd <;> simp at hv <;> grind
  have n2 : Sp L n z none := by
    intro k hk hl
    have := h k hk
    unfold isLone at hl
    grind
  rw [Sd_one ha (Sd_no (n1 true)), Sd_one hb (Sd_no (n1 false)), Sp_one hc n2]
  rfl
