/-! HOW A PAPER IS MADE: its knots go on, lines go on to greater x, straight between knots -/
def RK (q r : Kn) : Prop := q.1 ≤ r.1 ∧ (q.2.2 = true → q.1 < r.1)
theorem kno_x {x : Rat} {a b : Option (Rat × Rat)} {c : Option Rat} : ∀ q ∈ kno x a b c, q.1 = x := by
  intro q hq
  unfold kno at hq
  cases a <;> cases b <;> cases c <;> (repeat' split at hq) <;> simp at hq <;> (try (rcases hq with e | e | e)) <;> (try (rcases hq with e | e)) <;> simp_all
theorem kno_R {x : Rat} {a b : Option (Rat × Rat)} {c : Option Rat} : (kno x a b c).Pairwise RK := by
  unfold kno
  cases a <;> cases b <;> cases c <;> (repeat' split) <;> simp [RK] <;> grind
theorem paper_R {L : Nat → Ln} {n : Nat} {ks : List Kn} (h : PaperIs L n ks) : ks.Pairwise RK := by
  obtain ⟨xs, f, a1, a2, a3, e⟩ := h
  rw [e, List.pairwise_flatMap]
  refine ⟨fun x hx => ?_, ?_⟩
  · obtain ⟨a, b, c, _, _, _, ek⟩ := a3 x hx
    rw [ek]; exact kno_R
  · refine List.Pairwise.imp_of_mem ?_ a1
    intro x y hx hy hxy q hq r hr
    obtain ⟨a, b, c, _, _, _, ek⟩ := a3 x hx
    obtain ⟨a', b', c', _, _, _, ek'⟩ := a3 y hy
    rw [ek] at hq
    rw [ek'] at hr
    rw [RK, kno_x q hq, kno_x r hr]
    exact ⟨by grind, fun _ => hxy⟩
theorem paper_mem {L : Nat → Ln} {n : Nat} {ks : List Kn} (h : PaperIs L n ks) (q : Kn) : q ∈ ks ↔ ∃ k, KA L n q.1 k ∧ q ∈ k := by
  obtain ⟨xs, f, a1, a2, a3, e⟩ := h
  rw [e, List.mem_flatMap]
  constructor
  · rintro ⟨x, hx, hq⟩
    have ka := a3 x hx
    obtain ⟨a, b, c, _, _, _, ek⟩ := id ka
    have e1 : q.1 = x := by rw [ek] at hq; exact kno_x q hq
    rw [e1]; exact ⟨_, ka, hq⟩
  · rintro ⟨k, ka, hq⟩
    have hx := a2 q.1 k ka (fun z => by rw [z] at hq; cases hq)
    exact ⟨q.1, hx, by rw [KA_one (a3 q.1 hx) ka]; exact hq⟩
/-- a right begin is somewhere left again -/
theorem after_ex {L : Nat → Ln} {n : Nat} {x : Rat} {u : Rat × Rat} (h : Sd L n false x (some u)) : ∃ y k, x < y ∧ KA L n y k ∧ k ≠ [] := by
  obtain ⟨o, ho, _⟩ := h
  have key : ∀ m, m ≤ n → (∃ k, k < m ∧ lnF (L k) < lnT (L k) ∧ x < (lnT (L k) : Rat)) → ∃ k, k < m ∧ lnF (L k) < lnT (L k) ∧ x < (lnT (L k) : Rat) ∧ ∀ j, j < m → lnF (L j) < lnT (L j) → lnT (L j) ≤ lnT (L k) := by
    intro m
    induction m with
    | zero => rintro _ ⟨k, hk, _⟩; omega
    | succ m ih =>
      rintro hm ⟨k, hk, h1, h2⟩
      by_cases hold : ∃ k, k < m ∧ lnF (L k) < lnT (L k) ∧ x < (lnT (L k) : Rat)
      · obtain ⟨p, p1, p2, p3, p4⟩ := ih (by omega) hold
        by_cases c : lnF (L m) < lnT (L m) ∧ lnT (L p) < lnT (L m)
        · refine ⟨m, by omega, c.1, ?_, fun j hj hjl => ?_⟩
          · have := lt_cast c.2; grind
          · by_cases e : j = m
            · rw [e]; omega
            · have := p4 j (by omega) hjl; omega
        · refine ⟨p, by omega, p2, p3, fun j hj hjl => ?_⟩
          by_cases e : j = m
          · rw [e] at hjl ⊢; omega
          · exact p4 j (by omega) hjl
      · have ek : k = m := by
          apply Classical.byContradiction
          intro z
          exact hold ⟨k, by omega, h1, h2⟩
        rw [ek] at h1 h2
        refine ⟨m, by omega, h1, h2, fun j hj hjl => ?_⟩
        by_cases e : j = m
        · rw [e]; omega
        · have : ¬ x < (lnT (L j) : Rat) := fun z => hold ⟨j, by omega, hjl, z⟩
          have h3 : (lnT (L j) : Rat) ≤ (lnT (L m) : Rat) := by grind
          exact_mod_cast h3
  have hv := ho.2.1
  unfold lv bey at hv
  simp at hv
  have hft : lnF (L o) < lnT (L o) := by
    have : (lnF (L o) : Rat) < (lnT (L o) : Rat) := by grind
    exact_mod_cast this
  obtain ⟨k, k1, k2, k3, k4⟩ := key n (Nat.le_refl _) ⟨o, ho.1, hft, by grind⟩
  obtain ⟨kk, ka⟩ := KA_ex L n (lnT (L k) : Rat)
  refine ⟨_, kk, k3, ka, ?_⟩
  obtain ⟨a, b, c, ha, hb, hc, e⟩ := ka
  have hl : ∃ w, Low L n true (lnT (L k) : Rat) w := Low_ex (k := k) k1 (by unfold lv bey; simp; exact lt_cast k2)
  obtain ⟨w, hw⟩ := hl
  have ea : a = some (vl (L w) (lnT (L k)), sl (L w)) := Sd_one ha (show Sd L n true _ (some _) from ⟨w, hw, rfl⟩)
  have eb : b = none := Sd_one hb (Sd_no (fun j hj z => by
    unfold lv bey at z
    simp at z
    have h1 : (lnT (L k) : Rat) < (lnT (L j) : Rat) := by grind
    have h2 : lnT (L k) < lnT (L j) := by exact_mod_cast h1
    have h3 : (lnF (L j) : Rat) < (lnT (L j) : Rat) := by grind
    have h4 : lnF (L j) < lnT (L j) := by exact_mod_cast h3
    have := k4 j hj h4
    omega))
  rw [e, ea, eb]
  simp [kno, meetsB]
