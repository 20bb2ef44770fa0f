/-! HULLS: the reference's stack -/
def Hst (h : xH) : List Pt2 → Prop
  | [] => True
  | b :: r => hI h 244 r.length = i32 b.1 ∧ hI h 245 r.length = i32 b.2 ∧ Hst h r
def AH (r _k : Nat) : Prop := r = 244 ∨ r = 245
theorem Hst_cg {h h' : xH} : ∀ {st : List Pt2}, (∀ j, j < st.length → hI h' 244 j = hI h 244 j ∧ hI h' 245 j = hI h 245 j) → Hst h st → Hst h' st := by
  intro st
  induction st with
  | nil => intro _ _; trivial
  | cons b r ih =>
    intro hc H
    have := hc r.length (Nat.lt_succ_self _)
    exact ⟨by rw [this.1]; exact H.1, by rw [this.2]; exact H.2.1, ih (fun j hj => hc j (Nat.lt_succ_of_lt hj)) H.2.2⟩
theorem Hst.fr {A : Nat → Nat → Prop} {h h' : xH} {st : List Pt2} (H : Hst h st) (f : Fr A h h') (hA : ∀ k, ¬ A 244 k ∧ ¬ A 245 k) : Hst h' st := Hst_cg (fun j _ => ⟨(f.2.2 244 j (hA j).1).1, (f.2.2 245 j (hA j).2).1⟩) H
theorem Hst_at {h : xH} : ∀ {st : List Pt2} {j : Nat} {v : Pt2}, Hst h st → st.reverse[j]? = some v → hI h 244 j = i32 v.1 ∧ hI h 245 j = i32 v.2 := by
  intro st
  induction st with
  | nil => intro j v _ e; cases e
  | cons b r ih =>
    intro j v H e
    rw [List.reverse_cons] at e
    rcases app_at e with ⟨_, e2⟩ | ⟨hk, e2⟩
    · exact ih H.2.2 e2
    · rw [List.length_reverse] at hk
      rw [hk, e2]; exact ⟨H.1, H.2.1⟩
theorem crs_b (a b q : Pt2) : crz a b q = (b.1 - a.1) * (q.2 - b.2) - (b.2 - a.2) * (q.1 - b.1) := by
  unfold crz; grind
section MH
variable {h : xH} {q : Pt2}
theorem m_turnsUp {a b : Pt2} {r : List Pt2} (M : Mo h) (H : Hst h (b :: a :: r)) (hl : r.length + 2 ≤ 13) (ba : PtB a) (bb : PtB b) (bq : PtB q) : fX7_turnsUp 220 (i32 ((r.length + 2 : Nat) : Int)) (i32 q.1) (i32 q.2) h = some (bz (decide (0 < crz a b q)), h) := by
  obtain ⟨H1, H2, H3, H4, _⟩ := H
  have H1 : hI h 244 (r.length + 1) = i32 b.1 := H1
  have H2 : hI h 245 (r.length + 1) = i32 b.2 := H2
  obtain ⟨a1, a2⟩ := ba
  obtain ⟨b1, b2⟩ := bb
  obtain ⟨q1, q2⟩ := bq
  have e1 : (i32 (((r.length + 2 : Nat) : Int) - 1)).toNatClampNeg = r.length + 1 := by rw [i32_nat (by omega) (by omega)]; omega
  have e2 : (i32 (((r.length + 2 : Nat) : Int) - 2)).toNatClampNeg = r.length := by rw [i32_nat (by omega) (by omega)]; omega
  have x1 : ix (i32 (((r.length + 2 : Nat) : Int) - 1)) 13 := ix_i (by omega) (by omega) (by decide)
  have x2 : ix (i32 (((r.length + 2 : Nat) : Int) - 2)) 13 := ix_i (by omega) (by omega) (by decide)
  have z1 : B32 (b.1 - a.1) := ⟨by omega, by omega⟩
  have z2 : B32 (b.2 - a.2) := ⟨by omega, by omega⟩
  have z3 : B32 (q.1 - b.1) := ⟨by omega, by omega⟩
  have z4 : B32 (q.2 - b.2) := ⟨by omega, by omega⟩
  have m1 := mul_b (M := 11880) (N := 11880) (show -11880 ≤ b.1 - a.1 ∧ b.1 - a.1 ≤ 11880 by omega) (show -11880 ≤ q.2 - b.2 ∧ q.2 - b.2 ≤ 11880 by omega)
  have m2 := mul_b (M := 11880) (N := 11880) (show -11880 ≤ b.2 - a.2 ∧ b.2 - a.2 ≤ 11880 by omega) (show -11880 ≤ q.1 - b.1 ∧ q.1 - b.1 ≤ 11880 by omega)
  have Bm1 : B64 ((b.1 - a.1) * (q.2 - b.2)) := ⟨by omega, by omega⟩
  have Bm2 : B64 ((b.2 - a.2) * (q.1 - b.1)) := ⟨by omega, by omega⟩
  have ec := crs_b a b q
  unfold fX7_turnsUp
  simp only [lt_def, M.k220, M.r33, M.r34, M.k244, M.k245, M.l244, M.l245, one32, two32, i32_sub, if_pos x1, if_pos x2, e1, e2, H1, H2, H3, H4, i64_of32 z1, i64_of32 z2, i64_of32 z3, i64_of32 z4, i64_mul, reduceIte]
  by_cases c : 0 < crz a b q
  · rw [if_neg (fun z => by have := (lz_le Bm1 Bm2).mp z; omega), decide_eq_true c]; rfl
  · rw [if_pos ((lz_le Bm1 Bm2).mpr (by omega)), decide_eq_false c]; rfl
theorem m_pop {i k : Int32} (M : Mo h) (bq : PtB q) (r23 : Nat → Int32 → Int32 → Int32 → xH → Option (Int32 × xH)) : ∀ (st : List Pt2) (m : Nat), Hst h st → st.length < m → st.length ≤ 13 → (∀ v ∈ st, PtB v) → fX7_hull_l115 r23 m 220 i (i32 (st.length : Int)) k (i32 q.1) (i32 q.2) h = fX7_hull_b138 r23 220 i (i32 ((popN q st).length : Int)) k (i32 q.1) (i32 q.2) h ∧ Hst h (popN q st) := by
  intro st
  induction st with
  | nil =>
    intro m H hm _ _
    obtain ⟨m, rfl⟩ : ∃ k, m = k + 1 := ⟨m - 1, by omega⟩
    refine ⟨?_, trivial⟩
    show fX7_hull_b115 _ _ 220 _ _ _ _ _ h = _
    unfold fX7_hull_b115
    rw [if_pos (by decide)]
    rfl
  | cons b r ih =>
    intro m H hm hl hb
    obtain ⟨m, rfl⟩ : ∃ k, m = k + 1 := ⟨m - 1, by omega⟩
    cases r with
    | nil =>
      refine ⟨?_, H⟩
      show fX7_hull_b115 _ _ 220 _ _ _ _ _ h = _
      unfold fX7_hull_b115
      rw [if_pos (show i32 (([b].length : Nat) : Int) ≤ 1 from (show i32 ((1 : Nat) : Int) ≤ 1 by decide))]
      rfl
    | cons a r =>
      rw [List.length_cons, List.length_cons] at hm hl
      have tu := m_turnsUp (q := q) M H (by omega) (hb a (List.mem_cons_of_mem _ List.mem_cons_self)) (hb b List.mem_cons_self) bq
      have eS : (((b :: a :: r).length : Nat) : Int) = ((r.length + 2 : Nat) : Int) := rfl
      have ep : popN q (b :: a :: r) = if 0 < crz a b q then b :: a :: r else popN q (a :: r) := rfl
      have n1 : ¬ i32 ((r.length + 2 : Nat) : Int) ≤ (1 : Int32) := fun z => by
        have := (i32_le (b := 1) ⟨by omega, by omega⟩ ⟨by decide, by decide⟩).mp z
        omega
      by_cases c : 0 < crz a b q
      · rw [ep, if_pos c]
        refine ⟨?_, H⟩
        show fX7_hull_b115 _ _ 220 _ _ _ _ _ h = _
        unfold fX7_hull_b115
        rw [eS, if_neg n1, if_pos M.k220, tu, bd_some, decide_eq_true c, if_neg bzt0]
      · rw [ep, if_neg c]
        obtain ⟨E2, H2⟩ := ih m H.2.2 (by rw [List.length_cons]; omega) (by rw [List.length_cons]; omega) (fun v hv => hb v (List.mem_cons_of_mem _ hv))
        refine ⟨?_, H2⟩
        show fX7_hull_b115 _ _ 220 _ _ _ _ _ h = _
        unfold fX7_hull_b115
        rw [eS, if_neg n1, if_pos M.k220, tu, bd_some, decide_eq_false c, if_pos bz_f, lt_def, m1_32, i32_add, show ((r.length + 2 : Nat) : Int) + -1 = (((a :: r).length : Nat) : Int) by rw [List.length_cons]; omega]
        exact E2
theorem m_push {i : Int32} {k : Nat} {st : List Pt2} (M : Mo h) (H : Hst h st) (hl : st.length < 13) (r23 : Nat → Int32 → Int32 → Int32 → xH → Option (Int32 × xH)) : ∃ h', fX7_hull_b138 r23 220 i (i32 (st.length : Int)) (i32 (k : Int)) (i32 q.1) (i32 q.2) h = r23 220 i (i32 ((q :: st).length : Int)) (i32 ((k + 1 : Nat) : Int)) h' ∧ Hst h' (q :: st) ∧ Fr AH h h' := by
  have x1 : ix (i32 (st.length : Int)) 13 := ix_i (by omega) (by omega) (by decide)
  have n1 := nat_i st.length (by omega)
  have f1 : Fr AH h (sI h 244 st.length (i32 q.1)) := Fr.I _ (Or.inl rfl)
  have f2 : Fr AH h (sI (sI h 244 st.length (i32 q.1)) 245 st.length (i32 q.2)) := f1.tr (Fr.I _ (Or.inr rfl))
  refine ⟨_, ?_, ⟨?_, ?_, Hst_cg (fun j hj => ⟨?_, ?_⟩) H⟩, f2⟩
  · unfold fX7_hull_b138 fX7_hull_b157
    rw [if_pos M.k220, M.r33, if_pos M.k244, M.l244, if_pos x1, lt_def]
    simp only [n1]
    rw [(f1.mo M).r34, if_pos (f1.mo M).k245, (f1.mo M).l245, if_pos x1, lt_def, lt_def, lt_def, one32, i32_add, i32_add, kp1, kp1]
    rfl
  · rw [hI_sI, if_neg (by omega), hI_sI, if_pos ⟨rfl, rfl⟩]
  · rw [hI_sI, if_pos ⟨rfl, rfl⟩]
  · rw [hI_sI, if_neg (by omega), hI_sI, if_neg (by omega)]
  · rw [hI_sI, if_neg (by omega), hI_sI, if_neg (by omega)]
theorem m_pp {i : Int32} {k : Nat} {st : List Pt2} (M : Mo h) (bq : PtB q) (H : Hst h st) (hl : st.length ≤ 12) (hb : ∀ v ∈ st, PtB v) (r23 : Nat → Int32 → Int32 → Int32 → xH → Option (Int32 × xH)) : ∃ h', fX7_hull_l115 r23 FU 220 i (i32 (st.length : Int)) (i32 (k : Int)) (i32 q.1) (i32 q.2) h = r23 220 i (i32 ((q :: popN q st).length : Int)) (i32 ((k + 1 : Nat) : Int)) h' ∧ Hst h' (q :: popN q st) ∧ Fr AH h h' := by
  obtain ⟨E1, H1⟩ := m_pop (i := i) (k := i32 (k : Int)) M bq r23 st FU H (by rw [FU_eq]; omega) (by omega) hb
  have := pop_len q st
  obtain ⟨h', E2, H2, F2⟩ := m_push (i := i) (k := k) (q := q) M H1 (by omega) r23
  exact ⟨h', by rw [E1, E2], H2, F2⟩
theorem m_h83 {i : Int32} {k : Nat} {st : List Pt2} (M : Mo h) (bq : PtB q) (H : Hst h st) (hl : st.length ≤ 12) (hb : ∀ v ∈ st, PtB v) (r23 : Nat → Int32 → Int32 → Int32 → xH → Option (Int32 × xH)) (hn : ∀ b, st.head? = some b → b.1 = q.1 → q.2 < b.2) : ∃ h', fX7_hull_b82 r23 220 i (i32 (st.length : Int)) (i32 (k : Int)) (i32 q.1) (i32 q.2) h = r23 220 i (i32 ((stepH q st).length : Int)) (i32 ((k + 1 : Nat) : Int)) h' ∧ Hst h' (stepH q st) ∧ Fr AH h h' := by
  unfold fX7_hull_b82 fX7_hull_b83 fX7_hull_b112 fX7_hull_b113
  rw [if_pos rfl]
  cases st with
  | nil =>
    obtain ⟨h', E, R⟩ := m_pp (i := i) (k := k) (st := []) M bq H hl hb r23
    refine ⟨h', ?_, R⟩
    rw [if_pos (by decide), lt_def]
    exact E
  | cons b r =>
    rw [List.length_cons] at hl
    have bb := hb b List.mem_cons_self
    have eS : (((b :: r).length : Nat) : Int) = ((r.length + 1 : Nat) : Int) := rfl
    have e1 : (i32 (((r.length + 1 : Nat) : Int) - 1)).toNatClampNeg = r.length := by rw [i32_nat (by omega) (by omega)]; omega
    have x1 : ix (i32 (((r.length + 1 : Nat) : Int) - 1)) 13 := ix_i (by omega) (by omega) (by decide)
    have n0 : ¬ i32 ((r.length + 1 : Nat) : Int) ≤ (0 : Int32) := fun z => by
      have := (i32_le (b := 0) ⟨by omega, by omega⟩ ⟨by decide, by decide⟩).mp z
      omega
    have zb : B32 b.1 := ⟨by have := bb.1; omega, by have := bb.1; omega⟩
    have zq : B32 q.1 := ⟨by have := bq.1; omega, by have := bq.1; omega⟩
    rw [eS, if_neg n0, if_pos M.k220, M.r33, if_pos M.k244, M.l244, one32, i32_sub, if_pos x1]
    simp only [e1]
    rw [H.1]
    by_cases c : b.1 = q.1
    · have c2 := hn b rfl c
      have es : stepH q (b :: r) = q :: popN q r := (if_pos c).trans (if_pos c2)
      obtain ⟨h', E, R⟩ := m_pp (i := i) (k := k) (st := r) M bq H.2.2 (by omega) (fun v hv => hb v (List.mem_cons_of_mem _ hv)) r23
      rw [es]
      refine ⟨h', ?_, R⟩
      rw [if_pos ((i32_eq zb zq).mpr c), lt_def, show ((r.length + 1 : Nat) : Int) - 1 = (r.length : Int) by omega]
      exact E
    · have es : stepH q (b :: r) = q :: popN q (b :: r) := if_neg c
      obtain ⟨h', E, R⟩ := m_pp (i := i) (k := k) (st := b :: r) M bq H (by rw [List.length_cons]; omega) hb r23
      rw [es]
      refine ⟨h', ?_, R⟩
      rw [if_neg (fun z => c ((i32_eq zb zq).mp z)), lt_def, z32, i32_sub, Int.sub_zero]
      exact E
theorem m_h23 {i k : Nat} {ks : List Kn} {st : List Pt2} (M : Mo h) (hi : i < 6) (O : StO ks) (R : Rwi h i ks) (hk : k < ks.length) (H : Hst h st) (hl : st.length ≤ 12) (hb : ∀ v ∈ st, PtB v) (r23 : Nat → Int32 → Int32 → Int32 → xH → Option (Int32 × xH)) : ∃ h', fX7_hull_b23 r23 220 (i32 (i : Int)) (i32 (st.length : Int)) (i32 (k : Int)) h = r23 220 (i32 (i : Int)) (i32 ((stepH (ptK ks k) st).length : Int)) (i32 ((k + 1 : Nat) : Int)) h' ∧ Hst h' (stepH (ptK ks k) st) ∧ Fr AH h h' := by
  obtain ⟨h12, P, F⟩ := O
  have bq : PtB (ptK ks k) := P.b hk
  unfold fX7_hull_b23
  rw [if_pos M.k220, m_many M hi R, bd_some, if_neg (fun z => by have := (i32_le ⟨by omega, by omega⟩ ⟨by omega, by omega⟩).mp z; omega), m_xOf M hi h12 R hk, bd_some, m_yOf M hi h12 R hk, bd_some]
  have eq1 : kx ks k = (ptK ks k).1 := rfl
  have eq2 : ky ks k = (ptK ks k).2 := rfl
  rw [eq1, eq2]
  cases st with
  | nil =>
    obtain ⟨h', E, T⟩ := m_h83 (i := i32 (i : Int)) (k := k) M bq H hl hb r23 (fun b z => by cases z)
    refine ⟨h', ?_, T⟩
    rw [if_pos (by decide)]
    exact E
  | cons b r =>
    rw [List.length_cons] at hl
    have bb := hb b List.mem_cons_self
    have eS : (((b :: r).length : Nat) : Int) = ((r.length + 1 : Nat) : Int) := rfl
    have e1 : (i32 (((r.length + 1 : Nat) : Int) - 1)).toNatClampNeg = r.length := by rw [i32_nat (by omega) (by omega)]; omega
    have x1 : ix (i32 (((r.length + 1 : Nat) : Int) - 1)) 13 := ix_i (by omega) (by omega) (by decide)
    have n0 : ¬ i32 ((r.length + 1 : Nat) : Int) ≤ (0 : Int32) := fun z => by
      have := (i32_le (b := 0) ⟨by omega, by omega⟩ ⟨by decide, by decide⟩).mp z
      omega
    have zb : B32 b.1 := ⟨by have := bb.1; omega, by have := bb.1; omega⟩
    have zq : B32 (ptK ks k).1 := ⟨by have := bq.1; omega, by have := bq.1; omega⟩
    have yb : B32 b.2 := ⟨by have := bb.2; omega, by have := bb.2; omega⟩
    have yq : B32 (ptK ks k).2 := ⟨by have := bq.2; omega, by have := bq.2; omega⟩
    have H1 := H.1
    have H2 := H.2.1
    rw [eS, if_neg n0, M.r33, if_pos M.k244, M.l244, one32, i32_sub, if_pos x1]
    simp only [e1]
    rw [H1]
    by_cases c : b.1 = (ptK ks k).1
    · rw [if_pos ((i32_eq zb zq).mpr c), M.r34, if_pos M.k245, M.l245, if_pos x1, H2]
      by_cases c2 : (ptK ks k).2 < b.2
      · obtain ⟨h', E, T⟩ := m_h83 (i := i32 (i : Int)) (k := k) (st := b :: r) M bq H (by rw [List.length_cons]; omega) hb r23 (fun b' z e => by rw [← Option.some.inj z]; exact c2)
        refine ⟨h', ?_, T⟩
        rw [if_pos ((i32_lt yq yb).mpr c2)]
        exact E
      · have es : stepH (ptK ks k) (b :: r) = b :: r := (if_pos c).trans (if_neg c2)
        refine ⟨h, ?_, by rw [es]; exact H, Fr.rf h⟩
        unfold fX7_hull_b83 fX7_hull_b157
        rw [if_neg (fun z => c2 ((i32_lt yq yb).mp z)), if_neg (by decide), lt_def, one32, i32_add, kp1, es]
        try rfl
    · obtain ⟨h', E, T⟩ := m_h83 (i := i32 (i : Int)) (k := k) (st := b :: r) M bq H (by rw [List.length_cons]; omega) hb r23 (fun b' z e => absurd (by rw [← e, ← Option.some.inj z]) c)
      refine ⟨h', ?_, T⟩
      rw [if_neg (fun z => c ((i32_eq zb zq).mp z))]
      exact E
end MH
