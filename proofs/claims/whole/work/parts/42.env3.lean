/-! a line is laid under the pieces -/
def stepN (L : Nat → Ln) (l : Nat) (st : List Pie × Rat) (pc : Pie) : List Pie × Rat :=
  lt (if (lnT (L l) : Rat) ≤ pc.1 ∧ st.2 < (lnT (L l) : Rat) then (addN st.1 st.2 (lnT (L l) : Rat) l, (lnT (L l) : Rat)) else st) (fun s1 =>
  if pc.2.1 ≤ (lnF (L l) : Rat) ∨ (lnT (L l) : Rat) ≤ pc.1 then (addN s1.1 pc.1 pc.2.1 pc.2.2, s1.2)
  else lt (if s1.2 < pc.1 then (addN s1.1 s1.2 pc.1 l, pc.1) else (addN s1.1 pc.1 s1.2 pc.2.2, s1.2)) (fun s2 =>
    lt (if pc.2.1 ≤ (lnT (L l) : Rat) then pc.2.1 else (lnT (L l) : Rat)) (fun pe =>
    (addN (meetN L l pc.2.2 s2.2 pe s2.1) pe pc.2.1 pc.2.2, pe))))
def clampN (F T e : Rat) : Rat := if e ≤ F then F else if T ≤ e then T else e
def IvN (L : Nat → Ln) (l : Nat) (e : Rat) (st : List Pie × Rat) : Prop :=
  PieOk st.1 ∧ (∀ q ∈ st.1, q.2.1 ≤ e) ∧ st.2 = clampN (lnF (L l)) (lnT (L l)) e ∧ ∀ sd x o', Pk sd x st.1 o' ↔ (¬ bey sd x e ∧ Low L (l + 1) sd x o')
theorem low_gap {L : Nat → Ln} {l o' : Nat} {sd : Bool} {x : Rat} (h : ∀ m, m < l → ¬ lv L sd x m) : Low L (l + 1) sd x o' ↔ (o' = l ∧ bey sd x (lnF (L l)) ∧ ¬ bey sd x (lnT (L l))) := by
  by_cases hl : lv L sd x l
  · rw [Low_first hl h]
    exact ⟨fun e => ⟨e, hl⟩, fun e => e.1⟩
  · rw [Low_no hl]
    exact ⟨fun q => absurd q.2.1 (h o' q.1), fun q => absurd q.2 hl⟩
theorem low_pie {L : Nat → Ln} {l o o' : Nat} {sd : Bool} {x : Rat} (h : Low L l sd x o) : Low L (l + 1) sd x o' ↔ ((bey sd x (lnF (L l)) ∧ ¬ bey sd x (lnT (L l))) ∧ ((o' = l ∧ bt L sd x l o) ∨ (o' = o ∧ bt L sd x o l))) ∨ (¬ (bey sd x (lnF (L l)) ∧ ¬ bey sd x (lnT (L l))) ∧ o' = o) := by
  by_cases hl : lv L sd x l
  · rw [Low_two hl h]
    constructor
    · exact fun q => Or.inl ⟨hl, q⟩
    · rintro (q | q)
      · exact q.2
      · exact absurd hl q.1
  · rw [Low_no hl]
    constructor
    · exact fun q => Or.inr ⟨hl, Low_one q h⟩
    · rintro (q | ⟨-, rfl⟩)
      · exact absurd q.1 hl
      · exact h
theorem stepN_iv {L : Nat → Ln} {l : Nat} {e : Rat} {st : List Pie × Rat} {pc : Pie} (hFT : lnF (L l) < lnT (L l)) (iv : IvN L l e st) (h1 : e ≤ pc.1) (h2 : pc.1 < pc.2.1) (hp : ∀ sd x, bey sd x pc.1 → ¬ bey sd x pc.2.1 → Low L l sd x pc.2.2) (hg : ∀ sd x, bey sd x e → ¬ bey sd x pc.1 → ∀ m, m < l → ¬ lv L sd x m) : IvN L l pc.2.1 (stepN L l st pc) := by
  obtain ⟨acc, p⟩ := st
  obtain ⟨p1, p2, o⟩ := pc
  obtain ⟨v1, v2, v3, v4⟩ := iv
  simp only at v1 v2 v3 v4 h1 h2 hp hg
  have hFT2 : (lnF (L l) : Rat) < (lnT (L l) : Rat) := Rat.intCast_lt_intCast.mpr hFT
  have hol : o < l := (hp true p2 (by unfold bey; simpa using h2) (by unfold bey; simp)).1
  have gap : ∀ sd x o', bey sd x e → ¬ bey sd x p1 → (Low L (l + 1) sd x o' ↔ (o' = l ∧ bey sd x (lnF (L l)) ∧ ¬ bey sd x (lnT (L l)))) := fun sd x o' q1 q2 => low_gap (hg sd x q1 q2)
  have pie : ∀ sd x o', bey sd x p1 → ¬ bey sd x p2 → (Low L (l + 1) sd x o' ↔ ((bey sd x (lnF (L l)) ∧ ¬ bey sd x (lnT (L l))) ∧ ((o' = l ∧ bt L sd x l o) ∨ (o' = o ∧ bt L sd x o l))) ∨ (¬ (bey sd x (lnF (L l)) ∧ ¬ bey sd x (lnT (L l))) ∧ o' = o)) := fun sd x o' q1 q2 => low_pie (hp sd x q1 q2)
  unfold stepN
  dsimp only
  generalize hF : (lnF (L l) : Rat) = F at *
  generalize hT : (lnT (L l) : Rat) = T at *
  have hpF : F ≤ p ∧ p ≤ T := by rw [v3]; unfold clampN; grind
  by_cases cA : T ≤ p1
  · -- the piece lies behind the line
    have fin : clampN F T p2 = T := by unfold clampN; grind
    by_cases c1 : p < T
    · rw [if_pos ⟨cA, c1⟩, lt_def, if_pos (Or.inr cA)]
      have he : e ≤ p := by
        have z := v3
        unfold clampN at z
        split at z
        · grind
        · split at z <;> grind
      obtain ⟨k1, k2⟩ := addN_ok2 (o := l) (b := T) v1 (fun q hq => by have := v2 q hq; grind) (show p ≤ T by grind)
      obtain ⟨k3, k4⟩ := addN_ok2 (o := o) (b := p2) k1 (fun q hq => by have := k2 q hq; grind) (show p1 ≤ p2 by grind)
      refine ⟨k3, k4, by rw [hF, hT]; exact fin.symm, fun sd x o' => ?_⟩
      simp only
      rw [addN_P k1.1, addN_P v1.1, v4]
      have g := gap sd x o'
      have r := pie sd x o'
      have n1 : bey sd x p2 → bey sd x p1 := bey_mono (by grind)
      have n2 : bey sd x p1 → bey sd x T := bey_mono (by grind)
      have n3 : bey sd x T → bey sd x p := bey_mono (by grind)
      have n4 : bey sd x p → bey sd x e := bey_mono (by grind)
      have n5 : bey sd x p → bey sd x F := bey_mono (by grind)
      have n6 : bey sd x e → bey sd x F → bey sd x p := by
        intro q1 q2; rw [v3]; unfold clampN; split; exact q2; split; grind; exact q1
      grind
    · rw [if_neg (fun q => c1 q.2), lt_def, if_pos (Or.inr cA)]
      have hpT : p = T := by grind
      have he : T ≤ e := by
        apply Classical.byContradiction
        intro hn
        have : clampN F T e < T := by unfold clampN; grind
        grind
      obtain ⟨k3, k4⟩ := addN_ok2 (o := o) (b := p2) v1 (fun q hq => by have := v2 q hq; grind) (show p1 ≤ p2 by grind)
      refine ⟨k3, k4, by rw [hF, hT]; exact hpT.trans fin.symm, fun sd x o' => ?_⟩
      simp only
      rw [addN_P v1.1, v4]
      have g := gap sd x o'
      have r := pie sd x o'
      have n1 : bey sd x p2 → bey sd x p1 := bey_mono (by grind)
      have n2 : bey sd x p1 → bey sd x e := bey_mono (by grind)
      have n3 : bey sd x e → bey sd x T := bey_mono (by grind)
      grind
  · rw [if_neg (fun q => cA q.1), lt_def]
    by_cases cB : p2 ≤ F
    · rw [if_pos (Or.inl cB)]
      have hpF2 : p = F := by rw [v3]; unfold clampN; grind
      obtain ⟨k3, k4⟩ := addN_ok2 (o := o) (b := p2) v1 (fun q hq => by have := v2 q hq; grind) (show p1 ≤ p2 by grind)
      refine ⟨k3, k4, by rw [hF, hT]; simp only; rw [hpF2]; unfold clampN; grind, fun sd x o' => ?_⟩
      simp only
      rw [addN_P v1.1, v4]
      have g := gap sd x o'
      have r := pie sd x o'
      have n1 : bey sd x p2 → bey sd x p1 := bey_mono (by grind)
      have n2 : bey sd x p1 → bey sd x e := bey_mono (by grind)
      have n3 : bey sd x F → bey sd x p2 := bey_mono (by grind)
      grind
    · rw [if_neg (fun q => q.elim cB cA)]
      dsimp only
      have hpe : p = if e ≤ F then F else e := by rw [v3]; unfold clampN; grind
      have he : e ≤ p := by rw [hpe]; grind
      generalize hpe2 : (if p2 ≤ T then p2 else T) = pe
      have pe1 : pe ≤ p2 ∧ pe ≤ T ∧ p1 < pe ∧ F < pe := by rw [← hpe2]; grind
      have fin : pe = clampN F T p2 := by rw [← hpe2]; unfold clampN; grind
      by_cases c1 : p < p1
      · rw [if_pos c1, lt_def, lt_def]
        obtain ⟨k1, k2⟩ := addN_ok2 (o := l) (b := p1) v1 (fun q hq => by have := v2 q hq; grind) (show p ≤ p1 by grind)
        obtain ⟨k3, k4⟩ := meetN_ok (L := L) (l := l) (o := o) (p2 := pe) k1 k2 (by grind)
        obtain ⟨k5, k6⟩ := addN_ok2 (o := o) (b := p2) k3 k4 (show pe ≤ p2 by grind)
        refine ⟨k5, k6, by rw [hF, hT]; exact fin, fun sd x o' => ?_⟩
        simp only
        rw [addN_P k3.1, meetN_P k1 k2 hol, addN_P v1.1, v4]
        have g := gap sd x o'
        have r := pie sd x o'
        have n1 : bey sd x p2 → bey sd x pe := bey_mono (by grind)
        have n2 : bey sd x pe → bey sd x p1 := bey_mono (by grind)
        have n3 : bey sd x p1 → bey sd x p := bey_mono (by grind)
        have n4 : bey sd x p → bey sd x e := bey_mono (by grind)
        have n5 : bey sd x p → bey sd x F := bey_mono (by grind)
        have n6 : bey sd x e → bey sd x F → bey sd x p := by
          intro q1 q2; rw [hpe]; split; exact q2; exact q1
        have n7 : bey sd x T → bey sd x pe := bey_mono (by grind)
        have n8 : bey sd x pe → bey sd x T ∨ bey sd x p2 := by
          intro q; rw [← hpe2] at q; split at q; exact Or.inr q; exact Or.inl q
        grind
      · rw [if_neg c1, lt_def, lt_def]
        obtain ⟨k1, k2⟩ := addN_ok2 (o := o) (b := p) v1 (fun q hq => by have := v2 q hq; grind) (show p1 ≤ p by grind)
        have hpp : p ≤ pe := by rw [hpe]; split <;> grind
        obtain ⟨k3, k4⟩ := meetN_ok (L := L) (l := l) (o := o) (p2 := pe) k1 k2 hpp
        obtain ⟨k5, k6⟩ := addN_ok2 (o := o) (b := p2) k3 k4 (show pe ≤ p2 by grind)
        refine ⟨k5, k6, by rw [hF, hT]; exact fin, fun sd x o' => ?_⟩
        simp only
        rw [addN_P k3.1, meetN_P k1 k2 hol, addN_P v1.1, v4]
        have g := gap sd x o'
        have r := pie sd x o'
        have n1 : bey sd x p2 → bey sd x pe := bey_mono (by grind)
        have n2 : bey sd x pe → bey sd x p := bey_mono (by grind)
        have n3 : bey sd x p → bey sd x p1 := bey_mono (by grind)
        have n4 : bey sd x p1 → bey sd x e := bey_mono (by grind)
        have n5 : bey sd x p → bey sd x F := bey_mono (by grind)
        have n6 : bey sd x e → bey sd x F → bey sd x p := by
          intro q1 q2; rw [hpe]; split; exact q2; exact q1
        have n7 : bey sd x T → bey sd x pe := bey_mono (by grind)
        have n8 : bey sd x pe → bey sd x T ∨ bey sd x p2 := by
          intro q; rw [← hpe2] at q; split at q; exact Or.inr q; exact Or.inl q
        grind
/-- all the pieces, the first one first -/
def SrtN (e : Rat) (ps : List Pie) : Prop := (∀ q ∈ ps, q.1 < q.2.1 ∧ e ≤ q.1) ∧ ps.Pairwise (fun q r => q.2.1 ≤ r.1)
theorem foldN_iv {L : Nat → Ln} {l : Nat} (hFT : lnF (L l) < lnT (L l)) : ∀ (ps : List Pie) (e : Rat) (st : List Pie × Rat), IvN L l e st → SrtN e ps → (∀ sd x o', bey sd x e → (Pk sd x ps o' ↔ Low L l sd x o')) → ∃ e', IvN L l e' (ps.foldl (stepN L l) st) ∧ ∀ sd x o', bey sd x e' → ¬ Low L l sd x o' := by
  intro ps
  induction ps with
  | nil =>
    intro e st iv _ hl
    exact ⟨e, iv, fun sd x o' hb hL => by obtain ⟨q, hq, -⟩ := (hl sd x o' hb).mpr hL; cases hq⟩
  | cons q t ih =>
    intro e st iv hs hl
    obtain ⟨s1, s2⟩ := hs
    rw [List.pairwise_cons] at s2
    have hq := s1 q List.mem_cons_self
    have nxt : ∀ r ∈ t, q.2.1 ≤ r.1 := fun r hr => s2.1 r hr
    have iv2 := stepN_iv hFT iv hq.2 hq.1 (fun sd x b1 b2 => (hl sd x q.2.2 (bey_mono hq.2 b1)).mp ⟨q, List.mem_cons_self, rfl, b1, b2⟩) (fun sd x b1 b2 m hm hv => by
      obtain ⟨o, ho⟩ := Low_ex hm hv
      obtain ⟨r, hr, -, r1, -⟩ := (hl sd x o b1).mpr ho
      rcases List.mem_cons.mp hr with rfl | hr
      · exact b2 r1
      · exact b2 (bey_mono (by have := nxt r hr; grind) r1))
    refine ih q.2.1 _ iv2 ⟨fun r hr => ⟨(s1 r (List.mem_cons_of_mem _ hr)).1, nxt r hr⟩, s2.2⟩ (fun sd x o' hb => ?_)
    rw [← hl sd x o' (bey_mono (by grind) hb)]
    constructor
    · rintro ⟨r, hr, h⟩; exact ⟨r, List.mem_cons_of_mem _ hr, h⟩
    · rintro ⟨r, hr, h1, h2, h3⟩
      rcases List.mem_cons.mp hr with rfl | hr
      · exact absurd hb h3
      · exact ⟨r, hr, h1, h2, h3⟩
/-- a line laid under; the row comes the last one first -/
def underN (L : Nat → Ln) (l : Nat) (ps : List Pie) : List Pie :=
  lt (ps.foldl (stepN L l) ([], (lnF (L l) : Rat))) (fun st => if st.2 < (lnT (L l) : Rat) then addN st.1 st.2 (lnT (L l) : Rat) l else st.1)
/-- what a row of pieces (the first one first) is: of the lines below s the lowest at every cut -/
def EnvN (L : Nat → Ln) (s : Nat) (ps : List Pie) : Prop := PieOk ps.reverse ∧ ∀ sd x o, Pk sd x ps o ↔ Low L s sd x o
theorem Pk_rev {sd : Bool} {x : Rat} {ps : List Pie} {o : Nat} : Pk sd x ps.reverse o ↔ Pk sd x ps o := by
  unfold Pk
  simp only [List.mem_reverse]
theorem underN_env {L : Nat → Ln} {l : Nat} {ps : List Pie} (hFT : lnF (L l) < lnT (L l)) (h : EnvN L l ps) : EnvN L (l + 1) (underN L l ps).reverse := by
  obtain ⟨⟨o1, o2, o3⟩, h2⟩ := h
  have hFT2 : (lnF (L l) : Rat) < (lnT (L l) : Rat) := Rat.intCast_lt_intCast.mpr hFT
  -- a number ahead of all
  obtain ⟨e, he1, he2⟩ : ∃ e : Rat, e ≤ (lnF (L l) : Rat) ∧ ∀ q ∈ ps, e ≤ q.1 := by
    clear h2 o1 o2 o3
    induction ps with
    | nil => exact ⟨_, Rat.le_refl, fun q hq => by cases hq⟩
    | cons q t ih =>
      obtain ⟨e, h1, h2⟩ := ih
      rcases (show e ≤ q.1 ∨ q.1 ≤ e by grind) with h | h
      · exact ⟨e, h1, fun r hr => by rcases List.mem_cons.mp hr with rfl | hr; exact h; exact h2 r hr⟩
      · exact ⟨q.1, by grind, fun r hr => by rcases List.mem_cons.mp hr with rfl | hr; exact Rat.le_refl; have := h2 r hr; grind⟩
  have low0 : ∀ sd x o', ¬ bey sd x e → ¬ Low L (l + 1) sd x o' := by
    intro sd x o' hb hL
    by_cases hl : o' = l
    · subst hl
      exact hb (bey_mono he1 hL.2.1.1)
    · obtain ⟨o2, ho2⟩ := Low_ex (L := L) (sd := sd) (x := x) (show o' < l by have := hL.1; omega) hL.2.1
      obtain ⟨r, hr, -, r1, -⟩ := (h2 sd x o2).mpr ho2
      exact hb (bey_mono (he2 r hr) r1)
  have iv0 : IvN L l e ([], (lnF (L l) : Rat)) := by
    refine ⟨⟨(fun q hq => by cases hq), List.Pairwise.nil, List.Pairwise.nil⟩, (fun q hq => by cases hq), (by unfold clampN; rw [if_pos he1]), fun sd x o' => ?_⟩
    constructor
    · rintro ⟨q, hq, -⟩; cases hq
    · rintro ⟨q1, q2⟩; exact absurd q2 (low0 sd x o' q1)
  have srt : SrtN e ps := by
    refine ⟨fun q hq => ⟨o1 q (List.mem_reverse.mpr hq), he2 q hq⟩, ?_⟩
    rw [List.pairwise_reverse] at o2
    exact o2
  obtain ⟨e', iv, hno⟩ := foldN_iv hFT ps e _ iv0 srt (fun sd x o' _ => h2 sd x o')
  unfold underN
  rw [lt_def]
  generalize ps.foldl (stepN L l) ([], (lnF (L l) : Rat)) = st at *
  obtain ⟨v1, v2, v3, v4⟩ := iv
  have gap : ∀ sd x o', bey sd x e' → (Low L (l + 1) sd x o' ↔ (o' = l ∧ bey sd x (lnF (L l)) ∧ ¬ bey sd x (lnT (L l)))) := fun sd x o' q1 => low_gap (fun m hm hv => by
    obtain ⟨o, ho⟩ := Low_ex hm hv
    exact hno sd x o q1 ho)
  generalize hF : (lnF (L l) : Rat) = F at *
  generalize hT : (lnT (L l) : Rat) = T at *
  unfold EnvN
  rw [List.reverse_reverse]
  split
  · rename_i hlt
    have he : e' ≤ st.2 := by
      have z := v3
      unfold clampN at z
      split at z
      · grind
      · split at z <;> grind
    obtain ⟨k1, k2⟩ := addN_ok2 (o := l) (b := T) v1 (fun q hq => by have := v2 q hq; grind) (show st.2 ≤ T by grind)
    refine ⟨k1, fun sd x o' => ?_⟩
    rw [Pk_rev, addN_P v1.1, v4]
    have g := gap sd x o'
    have n3 : bey sd x T → bey sd x st.2 := bey_mono (by grind)
    have n4 : bey sd x st.2 → bey sd x e' := bey_mono (by grind)
    have n5 : bey sd x st.2 → bey sd x F := bey_mono (by rw [v3]; unfold clampN; grind)
    have n6 : bey sd x e' → bey sd x F → bey sd x st.2 := by
      intro q1 q2; rw [v3]; unfold clampN; split; exact q2; split; grind; exact q1
    grind
  · rename_i hlt
    have he : T ≤ e' := by
      apply Classical.byContradiction
      intro hn
      have : clampN F T e' < T := by unfold clampN; grind
      grind
    refine ⟨v1, fun sd x o' => ?_⟩
    rw [Pk_rev, v4]
    have g := gap sd x o'
    have n3 : bey sd x e' → bey sd x T := bey_mono (by grind)
    grind
