/-! THE REFERENCE'S under: one line under the row of pieces -/
theorem meetN_len (L : Nat → Ln) (l o : Nat) (p1 p2 : Rat) (acc : List Pie) : acc.length ≤ (meetN L l o p1 p2 acc).length := by
  unfold meetN
  split
  · exact Nat.le_refl _
  · split
    · exact addN_len ..
    · split
      · exact addN_len ..
      · exact Nat.le_trans (addN_len ..) (addN_len ..)
theorem meetN_PB {MA MB MC NP NQ : Int} {L : Nat → Ln} {l o : Nat} {p1 p2 : Rat} {acc : List Pie} (w : PB NP NQ acc) (h1 : Pt NP NQ p1) (h2 : Pt NP NQ p2) (hl : l < 700) (ho : o < 700) (bl : LBd MA MB MC (L l)) (bo : LBd MA MB MC (L o)) (xb : p1 < p2 → XB NP NQ (L l) (L o)) : PB NP NQ (meetN L l o p1 p2 acc) := by
  unfold meetN
  split
  · exact w
  · rename_i h12
    split
    · exact addN_PB w h1 h2 ho
    · rename_i c1
      split
      · exact addN_PB w h1 h2 hl
      · rename_i c2
        have pc := cr_pt bl.2.2.1 bo.2.2.1 (sv_ne c1 c2) (xb (by grind))
        refine addN_PB (addN_PB w h1 pc ?_) pc h2 ?_
        · split <;> assumption
        · split <;> assumption
theorem AN_ln (r k : Nat) (h1 : 235 ≤ r) (h2 : r < 240) : ¬ AN r k := by unfold AN; omega
section UN
variable {MA MB MC NP NQ : Int} {L : Nat → Ln} {n l o k : Nat} {h : xH} {acc : List Pie} {r : Nat → Int32 → Int64 → Int64 → Int64 → Int64 → Int32 → xH → Option (Unit × xH)} {a2 a4 : Int64} {c e s b F T : Rat}
theorem m_u340 (c1 c2 : Int64) : fX7_under_b340 r 220 (i32 l) a2 a4 c1 c2 (i32 k) h = r 220 (i32 l) a2 a4 c1 c2 (i32 ((k : Int) + 1)) h := by
  unfold fX7_under_b340; rw [lt_def, one32, i32_add]
theorem m_u300 (kk : Kon MA MB MC NP NQ) (w : Lns h L n) (hn : n ≤ 700) (hl : l < n) (ho : o < l) (bL : ∀ k, k < n → LBd MA MB MC (L k)) (q : Nw NP NQ h acc) (pc : Pt NP NQ c) (pe : Pt NP NQ e) (ps : Pt NP NQ s) (xb : c < e → XB NP NQ (L l) (L o)) (hs : (addN (meetN L l o c e acc) e s o).length ≤ 3200) : ∃ h', fX7_under_b300 r (i64 e.den) 220 (i32 l) a2 a4 (i64 c.num) (i64 c.den) (i32 k) (i64 s.num) (i64 s.den) (i32 o) (i64 e.num) h = r 220 (i32 l) a2 a4 (i64 e.num) (i64 e.den) (i32 ((k : Int) + 1)) h' ∧ Nw NP NQ h' (addN (meetN L l o c e acc) e s o) ∧ Fr AN h h' := by
  have u := addN_len (meetN L l o c e acc) e s o
  obtain ⟨g1, G1, N1, F1⟩ := m_meet kk q w hn hl (by omega) (bL l hl) (bL o (by omega)) pc pe xb (by omega)
  obtain ⟨g2, G2, N2, F2⟩ := m_addNew kk.2.2.1 kk.2.2.2 N1 pe ps (show o < 700 by omega) hs
  refine ⟨g2, ?_, N2, F1.tr F2⟩
  have eo : (i32 (o : Int)).toInt64 = i64 (o : Int) := i64_of32 ⟨by omega, by omega⟩
  unfold fX7_under_b300
  rw [if_pos q.1.k220, G1, bd_some, eo, G2, bd_some, m_u340]
theorem m_u255 (kk : Kon MA MB MC NP NQ) (w : Lns h L n) (hn : n ≤ 700) (hl : l < n) (ho : o < l) (bL : ∀ k, k < n → LBd MA MB MC (L k)) (q : Nw NP NQ h acc) (pc : Pt NP NQ c) (ps : Pt NP NQ s) (pT : Pt NP NQ T) (dT : i64 (T.den : Int) = 1) (ee : e = if s ≤ T then s else T) (xb : c < e → XB NP NQ (L l) (L o)) (hs : (addN (meetN L l o c e acc) e s o).length ≤ 3200) : ∃ h', fX7_under_b255 r 220 (i32 l) a2 (i64 T.num) (i64 c.num) (i64 c.den) (i32 k) (i64 s.num) (i64 s.den) (i32 o) h = r 220 (i32 l) a2 (i64 T.num) (i64 e.num) (i64 e.den) (i32 ((k : Int) + 1)) h' ∧ Nw NP NQ h' (addN (meetN L l o c e acc) e s o) ∧ Fr AN h h' := by
  have pe : Pt NP NQ e := by rw [ee]; split <;> assumption
  obtain ⟨h', G, N1, F1⟩ := m_u300 (r := r) (a2 := a2) (a4 := i64 T.num) (k := k) kk w hn hl ho bL q pc pe ps xb hs
  refine ⟨h', ?_, N1, F1⟩
  rw [← G]
  unfold fX7_under_b255 fX7_under_b273 fX7_under_b287
  rw [← dT, m_lieR h kk.2.2.1 kk.2.2.2 ps pT, bd_some]
  by_cases h1 : s ≤ T
  · rw [if_pos h1] at ee
    rw [if_neg (fun z => by have := sr_gt.mp ((si_gt _).mp z); grind), if_neg (by decide), if_neg (by decide), ee]
  · rw [if_neg h1] at ee
    rw [if_pos ((si_gt _).mpr (sr_gt.mpr (by grind))), if_pos rfl, if_pos rfl, ee]
theorem m_u178i (kk : Kon MA MB MC NP NQ) (w : Lns h L n) (hn : n ≤ 700) (hl : l < n) (ho : o < l) (bL : ∀ k, k < n → LBd MA MB MC (L k)) (q : Nw NP NQ h acc) (pc : Pt NP NQ c) (pb : Pt NP NQ b) (ps : Pt NP NQ s) (pT : Pt NP NQ T) (dT : i64 (T.den : Int) = 1) (ee : e = if s ≤ T then s else T) {s2 : List Pie × Rat} (e2 : s2 = if c < b then (addN acc c b l, b) else (addN acc b c o, c)) (xb : s2.2 < e → XB NP NQ (L l) (L o)) (hs : (addN (meetN L l o s2.2 e s2.1) e s o).length ≤ 3200) : ∃ h', fX7_under_b178 r 220 (i32 l) a2 (i64 T.num) (i64 c.num) (i64 c.den) (i32 k) (i64 b.num) (i64 b.den) (i64 s.num) (i64 s.den) (i32 o) 0 h = r 220 (i32 l) a2 (i64 T.num) (i64 e.num) (i64 e.den) (i32 ((k : Int) + 1)) h' ∧ Nw NP NQ h' (addN (meetN L l o s2.2 e s2.1) e s o) ∧ Fr AN h h' := by
  have u1 := addN_len (meetN L l o s2.2 e s2.1) e s o
  have u2 := meetN_len L l o s2.2 e s2.1
  have eo : (i32 (o : Int)).toInt64 = i64 (o : Int) := i64_of32 ⟨by omega, by omega⟩
  have el : (i32 (l : Int)).toInt64 = i64 (l : Int) := i64_of32 ⟨by omega, by omega⟩
  unfold fX7_under_b178
  rw [if_pos rfl, m_lieR h kk.2.2.1 kk.2.2.2 pc pb, bd_some]
  by_cases h1 : c < b
  · rw [if_pos h1] at e2
    rw [if_neg (fun z => by have := sr_ge.mp ((si_ge _).mp z); grind), if_pos q.1.k220, el]
    rw [e2] at hs xb u1 u2 ⊢
    obtain ⟨g1, G1, N1, F1⟩ := m_addNew kk.2.2.1 kk.2.2.2 q pc pb (show l < 700 by omega) (by simp only at u1 u2 hs; omega)
    obtain ⟨g2, G2, N2, F2⟩ := m_u255 (r := r) (a2 := a2) (k := k) kk (w.fr F1 AN_ln) hn hl ho bL N1 pb ps pT dT ee xb hs
    exact ⟨g2, by rw [G1, bd_some, G2], N2, F1.tr F2⟩
  · rw [if_neg h1] at e2
    rw [if_pos ((si_ge _).mpr (sr_ge.mpr (by grind))), if_pos q.1.k220, eo]
    rw [e2] at hs xb u1 u2 ⊢
    obtain ⟨g1, G1, N1, F1⟩ := m_addNew kk.2.2.1 kk.2.2.2 q pb pc (show o < 700 by omega) (by simp only at u1 u2 hs; omega)
    obtain ⟨g2, G2, N2, F2⟩ := m_u255 (r := r) (a2 := a2) (k := k) kk (w.fr F1 AN_ln) hn hl ho bL N1 pc ps pT dT ee xb hs
    exact ⟨g2, by rw [G1, bd_some, G2], N2, F1.tr F2⟩
theorem m_u178o (kk : Kon MA MB MC NP NQ) (ho : o < 700) (q : Nw NP NQ h acc) (pb : Pt NP NQ b) (ps : Pt NP NQ s) (hs : (addN acc b s o).length ≤ 3200) : ∃ h', fX7_under_b178 r 220 (i32 l) a2 a4 (i64 c.num) (i64 c.den) (i32 k) (i64 b.num) (i64 b.den) (i64 s.num) (i64 s.den) (i32 o) 1 h = r 220 (i32 l) a2 a4 (i64 c.num) (i64 c.den) (i32 ((k : Int) + 1)) h' ∧ Nw NP NQ h' (addN acc b s o) ∧ Fr AN h h' := by
  have eo : (i32 (o : Int)).toInt64 = i64 (o : Int) := i64_of32 ⟨by omega, by omega⟩
  unfold fX7_under_b178
  obtain ⟨g1, G1, N1, F1⟩ := m_addNew kk.2.2.1 kk.2.2.2 q pb ps ho hs
  exact ⟨g1, by rw [if_neg (by decide), if_pos q.1.k220, eo, G1, bd_some, m_u340], N1, F1⟩
/-- one piece -/
theorem m_u130 (kk : Kon MA MB MC NP NQ) (w : Lns h L n) (hn : n ≤ 700) (hl : l < n) (ho : o < l) (bL : ∀ k, k < n → LBd MA MB MC (L k)) (q : Nw NP NQ h acc) (pc : Pt NP NQ c) (pb : Pt NP NQ b) (ps : Pt NP NQ s) (pT : Pt NP NQ T) (dT : i64 (T.den : Int) = 1) (eF : F = (lnF (L l) : Rat)) (eT : T = (lnT (L l) : Rat)) (xb : ∀ c' : Rat, F ≤ c' → b ≤ c' → c' < T → c' < s → XB NP NQ (L l) (L o)) (hFc : F ≤ c) {so : Int32} (eso : so = if s ≤ F ∨ T ≤ b then 1 else 0) (hs : (stepN L l (acc, c) (b, s, o)).1.length ≤ 3200) : ∃ h', fX7_under_b130 r so 220 (i32 l) a2 (i64 T.num) (i64 c.num) (i64 c.den) (i32 k) (i64 b.num) (i64 b.den) (i64 s.num) (i64 s.den) (i32 o) h = r 220 (i32 l) a2 (i64 T.num) (i64 (stepN L l (acc, c) (b, s, o)).2.num) (i64 (stepN L l (acc, c) (b, s, o)).2.den) (i32 ((k : Int) + 1)) h' ∧ Nw NP NQ h' (stepN L l (acc, c) (b, s, o)).1 ∧ Fr AN h h' := by
  unfold stepN at hs ⊢
  rw [← eF, ← eT] at hs ⊢
  simp only [lt_def] at hs ⊢
  unfold fX7_under_b130
  have mT : ∀ {x : Rat} (_ : Pt NP NQ x) (g : xH), fX7_lie (i64 x.num) (i64 x.den) (i64 T.num) (1 : Int64) g = some (i32 (sg (x.num * T.den - T.num * x.den)), g) := by
    intro x hx g
    rw [← dT, m_lieR g kk.2.2.1 kk.2.2.2 hx pT]
  have el : (i32 (l : Int)).toInt64 = i64 (l : Int) := i64_of32 ⟨by omega, by omega⟩
  rw [mT pb h, bd_some]
  by_cases h1 : T ≤ b
  · rw [if_neg (fun z => by have := sr_lt.mp ((si_lt _).mp z); grind), mT pc h, bd_some]
    rw [if_pos (Or.inr h1)] at eso
    by_cases h2 : c < T
    · have h3 : T ≤ b ∧ c < T := ⟨h1, h2⟩
      rw [if_pos h3, if_pos (Or.inr h1)] at hs ⊢
      simp only at hs ⊢
      have u1 := addN_len (addN acc c T l) b s o
      rw [if_neg (fun z => by have := sr_ge.mp ((si_ge _).mp z); grind), if_pos q.1.k220, el]
      obtain ⟨g1, G1, N1, F1⟩ := m_addNew kk.2.2.1 kk.2.2.2 q pc pT (show l < 700 by omega) (by omega)
      obtain ⟨g2, G2, N2, F2⟩ := m_u178o (r := r) (a2 := a2) (a4 := i64 T.num) (k := k) (l := l) (c := T) kk (by omega) N1 pb ps hs
      rw [dT] at G1 G2
      exact ⟨g2, by rw [G1, bd_some, lt_def, eso, G2, dT], N2, F1.tr F2⟩
    · have h3 : ¬ (T ≤ b ∧ c < T) := fun z => h2 z.2
      rw [if_neg h3, if_pos (Or.inr h1)] at hs ⊢
      rw [if_pos ((si_ge _).mpr (sr_ge.mpr (by grind))), eso]
      exact m_u178o kk (by omega) q pb ps hs
  · have h3 : ¬ (T ≤ b ∧ c < T) := fun z => h1 z.1
    rw [if_pos ((si_lt _).mpr (sr_lt.mpr (by grind)))]
    rw [if_neg h3] at hs ⊢
    by_cases h4 : s ≤ F
    · rw [if_pos (Or.inl h4)] at hs eso ⊢
      rw [eso]
      exact m_u178o kk (by omega) q pb ps hs
    · have h5 : ¬ (s ≤ F ∨ T ≤ b) := fun z => z.elim h4 h1
      rw [if_neg h5] at hs eso ⊢
      rw [eso]
      refine m_u178i kk w hn hl ho bL q pc pb ps pT dT rfl rfl ?_ hs
      intro z
      by_cases h6 : c < b
      · simp only [if_pos h6] at z
        refine xb b ?_ ?_ ?_ ?_ <;> grind
      · simp only [if_neg h6] at z
        refine xb c ?_ ?_ ?_ ?_ <;> grind
end UN
theorem stepN_len (L : Nat → Ln) (l : Nat) (st : List Pie × Rat) (pc : Pie) : st.1.length ≤ (stepN L l st pc).1.length := by
  unfold stepN
  simp only [lt_def]
  have h1 : st.1.length ≤ (if (lnT (L l) : Rat) ≤ pc.1 ∧ st.2 < (lnT (L l) : Rat) then (addN st.1 st.2 (lnT (L l) : Rat) l, (lnT (L l) : Rat)) else st).1.length := by
    split
    · exact addN_len ..
    · exact Nat.le_refl _
  generalize (if (lnT (L l) : Rat) ≤ pc.1 ∧ st.2 < (lnT (L l) : Rat) then (addN st.1 st.2 (lnT (L l) : Rat) l, (lnT (L l) : Rat)) else st) = s1 at *
  split
  · exact Nat.le_trans h1 (addN_len ..)
  · refine Nat.le_trans h1 (Nat.le_trans ?_ (addN_len ..))
    refine Nat.le_trans ?_ (meetN_len ..)
    split
    · exact addN_len ..
    · exact addN_len ..
theorem foldN_len (L : Nat → Ln) (l : Nat) : ∀ (ps : List Pie) (st : List Pie × Rat), st.1.length ≤ (ps.foldl (stepN L l) st).1.length
  | [], _ => Nat.le_refl _
  | q :: t, st => Nat.le_trans (stepN_len L l st q) (foldN_len L l t (stepN L l st q))
theorem stepN_cur {NP NQ : Int} {L : Nat → Ln} {l : Nat} {st : List Pie × Rat} {pc : Pie} (h1 : Pt NP NQ st.2) (h2 : Pt NP NQ pc.2.1) (h3 : Pt NP NQ (lnT (L l))) (h4 : (lnF (L l) : Rat) ≤ st.2) (h5 : (lnF (L l) : Rat) < (lnT (L l) : Rat)) : Pt NP NQ (stepN L l st pc).2 ∧ (lnF (L l) : Rat) ≤ (stepN L l st pc).2 := by
  unfold stepN
  simp only [lt_def]
  have k1 : Pt NP NQ (if (lnT (L l) : Rat) ≤ pc.1 ∧ st.2 < (lnT (L l) : Rat) then (addN st.1 st.2 (lnT (L l) : Rat) l, (lnT (L l) : Rat)) else st).2 ∧ (lnF (L l) : Rat) ≤ (if (lnT (L l) : Rat) ≤ pc.1 ∧ st.2 < (lnT (L l) : Rat) then (addN st.1 st.2 (lnT (L l) : Rat) l, (lnT (L l) : Rat)) else st).2 := by
    split
    · exact ⟨h3, Std.le_of_lt h5⟩
    · exact ⟨h1, h4⟩
  generalize (if (lnT (L l) : Rat) ≤ pc.1 ∧ st.2 < (lnT (L l) : Rat) then (addN st.1 st.2 (lnT (L l) : Rat) l, (lnT (L l) : Rat)) else st) = s1 at *
  split
  · exact k1
  · rename_i hh
    show Pt NP NQ (if pc.2.1 ≤ (lnT (L l) : Rat) then pc.2.1 else (lnT (L l) : Rat)) ∧ (lnF (L l) : Rat) ≤ (if pc.2.1 ≤ (lnT (L l) : Rat) then pc.2.1 else (lnT (L l) : Rat))
    split
    · exact ⟨h2, by grind⟩
    · exact ⟨h3, by grind⟩
def A241 (r _k : Nat) : Prop := r = 241
def AU (r k : Nat) : Prop := r = 242 ∨ r = 241 ∨ (r = 220 ∧ (k = 30 ∨ k = 27))
theorem m_copy {N : Nat} (hN : N ≤ 3200) : ∀ (d j m : Nat) (h : xH), Mo h → hI h 220 30 = i32 N → j + d = 5 * N → d < m → (∀ i, i < j → hJ h 241 i = hJ h 242 i) → ∃ h', fX7_under_l383 m 220 (i32 j) h = some ((), h') ∧ Fr A241 h h' ∧ ∀ i, i < 5 * N → hJ h' 241 i = hJ h 242 i := by
  intro d
  induction d with
  | zero =>
    intro j m h q c e hm hc
    obtain ⟨m, rfl⟩ : ∃ k, m = k + 1 := ⟨m - 1, by omega⟩
    refine ⟨h, ?_, Fr.rf h, fun i hi => hc i (by omega)⟩
    show fX7_under_b383 _ _ _ _ = _
    unfold fX7_under_b383
    rw [if_pos q.k220, c, fiv32, i32_mul, if_pos ((i32_le ⟨by omega, by omega⟩ ⟨by omega, by omega⟩).mpr (by omega))]
  | succ d ih =>
    intro j m h q c e hm hc
    obtain ⟨m, rfl⟩ : ∃ k, m = k + 1 := ⟨m - 1, by omega⟩
    have f : Fr A241 h (sJ h 241 j (hJ h 242 j)) := Fr.J _ rfl
    obtain ⟨h', G, F, C⟩ := ih (j + 1) m (sJ h 241 j (hJ h 242 j)) (f.mo q) (by rw [hI_sJ]; exact c) (by omega) (by omega) (by
      intro i hi
      rw [hJ_sJ, hJ_sJ]
      rw [if_neg (show ¬ (242 = 241 ∧ i = j) by omega)]
      by_cases e : i = j
      · rw [if_pos ⟨rfl, e⟩, e]
      · rw [if_neg (by omega)]; exact hc i (by omega))
    refine ⟨h', ?_, f.tr F, fun i hi => ?_⟩
    · rw [← G]
      show fX7_under_b383 _ _ _ _ = _
      unfold fX7_under_b383
      have e1 := nat_i j (by omega)
      have x1 : ix (i32 j) 16000 := ix_i (by omega) (by omega) (by decide)
      rw [if_pos q.k220, c, fiv32, i32_mul, if_neg (fun z => by have := (i32_le ⟨by omega, by omega⟩ ⟨by omega, by omega⟩).mp z; omega)]
      simp only [lt_def, q.r28, q.r29, q.k241, q.k242, q.l241, q.l242, if_pos x1, e1, one32, i32_add, reduceIte]
      rfl
    · rw [C i hi, hJ_sJ, if_neg (by omega)]
theorem m_u372 {NP NQ : Int} {h : xH} {acc : List Pie} (q : Nw NP NQ h acc) (hs : acc.length ≤ 3200) : ∃ h', fX7_under_b372 220 h = some ((), h') ∧ Row5 h' 241 acc ∧ hI h' 220 27 = i32 acc.length ∧ Fr AU h h' := by
  have f : Fr AU h (sI h 220 27 (i32 acc.length)) := Fr.I _ (Or.inr (Or.inr ⟨rfl, Or.inr rfl⟩))
  obtain ⟨h', G, F, C⟩ := m_copy hs (5 * acc.length) 0 FU (sI h 220 27 (i32 acc.length)) (f.mo q.1) (by rw [hI_sI, if_neg (by omega)]; exact q.2.2.1) (by omega) (by rw [FU_eq]; omega) (fun i hi => by omega)
  refine ⟨h', ?_, Row5_cg (fun j hj => ?_) q.2.1, ?_, f.tr (F.mono (fun r k e => Or.inr (Or.inl e)))⟩
  · unfold fX7_under_b372
    rw [if_pos q.1.k220, lt_def, lt_def, q.2.2.1]
    exact G
  · rw [C j hj, hJ_sI]
  · rw [(F.2.2 220 27 (by unfold A241; omega)).1, hI_sI, if_pos ⟨rfl, rfl⟩]
def endN (l : Nat) (T : Rat) (st : List Pie × Rat) : List Pie := if st.2 < T then addN st.1 st.2 T l else st.1
section UM
variable {MA MB MC NP NQ : Int} {L : Nat → Ln} {n l : Nat} {F T : Rat} {ps : List Pie}
theorem int_den (z : Int) : i64 (((z : Rat).den : Nat) : Int) = 1 := by rw [Rat.den_intCast]; rfl
theorem low_lt {pc : Pie} (h12 : pc.1 < pc.2.1) (low : ∀ sd x, bey sd x pc.1 → ¬ bey sd x pc.2.1 → Low L l sd x pc.2.2) : pc.2.2 < l := by
  refine (low false pc.1 ?_ ?_).1
  · unfold bey; simp
  · unfold bey; simp; grind
theorem m_ul (kk : Kon MA MB MC NP NQ) (hn : n ≤ 700) (hl : l < n) (bL : ∀ k, k < n → LBd MA MB MC (L k)) (eF : F = (lnF (L l) : Rat)) (eT : T = (lnT (L l) : Rat)) (pF : Pt NP NQ F) (pT : Pt NP NQ T) (hFT : F < T) (xb : ∀ o, o < l → (∃ sd x, lv L sd x l ∧ lv L sd x o) → XB NP NQ (L l) (L o)) (hps : ps.length ≤ 3200) (pb : PB NP NQ ps) (h12 : ∀ pc ∈ ps, pc.1 < pc.2.1) (low : ∀ pc ∈ ps, ∀ sd x, bey sd x pc.1 → ¬ bey sd x pc.2.1 → Low L l sd x pc.2.2) :
    ∀ (rest : List Pie) (k m : Nat) (st : List Pie × Rat) (h : xH), rest = ps.drop k → k + rest.length = ps.length → rest.length < m → Lns h L n → Nw NP NQ h st.1 → Pt NP NQ st.2 → F ≤ st.2 → Row5 h 241 ps.reverse → hI h 220 27 = i32 ps.length →
    (endN l T (rest.foldl (stepN L l) st)).length ≤ 3200 →
    ∃ h', fX7_under_l31 m 220 (i32 l) (i64 F.num) (i64 T.num) (i64 st.2.num) (i64 st.2.den) (i32 k) h = some ((), h') ∧ Row5 h' 241 (endN l T (rest.foldl (stepN L l) st)) ∧ hI h' 220 27 = i32 (endN l T (rest.foldl (stepN L l) st)).length ∧ PB NP NQ (endN l T (rest.foldl (stepN L l) st)) ∧ Fr AU h h' := by
  have dT : i64 (T.den : Int) = 1 := by rw [eT]; exact int_den _
  have dF : i64 (F.den : Int) = 1 := by rw [eF]; exact int_den _
  have el : (i32 (l : Int)).toInt64 = i64 (l : Int) := i64_of32 ⟨by omega, by omega⟩
  intro rest
  induction rest with
  | nil =>
    intro k m st h hr hk hm w q pst hFs R c hs
    obtain ⟨m, rfl⟩ : ∃ k, m = k + 1 := ⟨m - 1, by omega⟩
    have e0 : List.foldl (stepN L l) st [] = st := rfl
    rw [e0] at hs ⊢
    unfold endN at hs ⊢
    show ∃ h', fX7_under_b31 _ _ _ _ _ _ _ _ _ = _ ∧ _
    unfold fX7_under_b31
    have hk' : ps.length ≤ k := by simp at hk; omega
    rw [if_pos q.1.k220, c, if_pos ((i32_le ⟨by omega, by omega⟩ ⟨by simp at hk; omega, by simp at hk; omega⟩).mpr (by omega)), ← dT, m_lieR h kk.2.2.1 kk.2.2.2 pst pT, bd_some]
    by_cases h1 : st.2 < T
    · rw [if_pos h1] at hs ⊢
      rw [if_neg (fun z => by have := sr_ge.mp ((si_ge _).mp z); grind), el]
      obtain ⟨g1, G1, N1, F1⟩ := m_addNew kk.2.2.1 kk.2.2.2 q pst pT (show l < 700 by omega) hs
      obtain ⟨g2, G2, R2, C2, F2⟩ := m_u372 N1 hs
      exact ⟨g2, by rw [G1, bd_some, G2], R2, C2, N1.2.2.2, (F1.mono (fun r k e => e.elim Or.inl (fun z => Or.inr (Or.inr ⟨z.1, Or.inl z.2⟩)))).tr F2⟩
    · rw [if_neg h1] at hs ⊢
      rw [if_pos ((si_ge _).mpr (sr_ge.mpr (by grind)))]
      obtain ⟨g2, G2, R2, C2, F2⟩ := m_u372 q hs
      exact ⟨g2, G2, R2, C2, q.2.2.2, F2⟩
  | cons pc rest ih =>
    intro k m st h hr hk hm w q pst hFs R c hs
    obtain ⟨m, rfl⟩ : ∃ k, m = k + 1 := ⟨m - 1, by omega⟩
    have hlen : (pc :: rest).length = rest.length + 1 := rfl
    have hkl : k < ps.length := by omega
    have hg : ps[k]? = some pc := by
      have := congrArg (fun t => t[0]?) hr
      simp only [List.getElem?_cons_zero, List.getElem?_drop] at this
      rw [show k = k + 0 from rfl]; exact this.symm
    have hrest : rest = ps.drop (k + 1) := by
      have := congrArg List.tail hr
      simpa [List.tail_drop] using this
    have hmem : pc ∈ ps := List.mem_of_getElem? hg
    have hpb := pb pc hmem
    have ho := low_lt (h12 pc hmem) (low pc hmem)
    have hfl : (pc :: rest).foldl (stepN L l) st = rest.foldl (stepN L l) (stepN L l st pc) := rfl
    rw [hfl] at hs ⊢
    have hsl : (stepN L l st pc).1.length ≤ 3200 := by
      have u := foldN_len L l rest (stepN L l st pc)
      refine Nat.le_trans u (Nat.le_trans ?_ hs)
      unfold endN
      split
      · exact addN_len ..
      · exact Nat.le_refl _
    have cur := stepN_cur (L := L) (l := l) (st := st) (pc := pc) pst hpb.2.1 (by rw [← eT]; exact pT) (by rw [← eF]; exact hFs) (by rw [← eF, ← eT]; exact hFT)
    have X : ∀ c' : Rat, F ≤ c' → pc.1 ≤ c' → c' < T → c' < pc.2.1 → XB NP NQ (L l) (L pc.2.2) := by
      intro c' a1 a2 a3 a4
      refine xb _ ho ⟨false, c', ⟨?_, ?_⟩, (low pc hmem false c' ?_ ?_).2.1⟩
      · unfold bey; rw [← eF]; simp; exact a1
      · unfold bey; rw [← eT]; simp; grind
      · unfold bey; simp; exact a2
      · unfold bey; simp; grind
    have st30 : ∀ so : Int32, so = (if pc.2.1 ≤ F ∨ T ≤ pc.1 then 1 else 0) → ∃ h', fX7_under_b130 (fX7_under_l31 m) so 220 (i32 l) (i64 F.num) (i64 T.num) (i64 st.2.num) (i64 st.2.den) (i32 k) (i64 pc.1.num) (i64 pc.1.den) (i64 pc.2.1.num) (i64 pc.2.1.den) (i32 pc.2.2) h = fX7_under_l31 m 220 (i32 l) (i64 F.num) (i64 T.num) (i64 (stepN L l st pc).2.num) (i64 (stepN L l st pc).2.den) (i32 ((k : Int) + 1)) h' ∧ Nw NP NQ h' (stepN L l st pc).1 ∧ Fr AN h h' := fun so eso => m_u130 (acc := st.1) (c := st.2) kk w hn hl ho bL q pst hpb.1 hpb.2.1 pT dT eF eT X hFs eso hsl
    have fin : ∀ h1, Nw NP NQ h1 (stepN L l st pc).1 → Fr AN h h1 → ∃ h', fX7_under_l31 m 220 (i32 l) (i64 F.num) (i64 T.num) (i64 (stepN L l st pc).2.num) (i64 (stepN L l st pc).2.den) (i32 ((k : Int) + 1)) h1 = some ((), h') ∧ Row5 h' 241 (endN l T (rest.foldl (stepN L l) (stepN L l st pc))) ∧ hI h' 220 27 = i32 (endN l T (rest.foldl (stepN L l) (stepN L l st pc))).length ∧ PB NP NQ (endN l T (rest.foldl (stepN L l) (stepN L l st pc))) ∧ Fr AU h h' := by
      intro h1 N1 F1
      obtain ⟨h', G, a1, a2, a3, a4⟩ := ih (k + 1) m (stepN L l st pc) h1 hrest (by omega) (by omega) (w.fr F1 AN_ln) N1 cur.1 (by rw [eF]; exact cur.2) (Row5_cg (fun j _ => (F1.2.2 241 j (by unfold AN; omega)).2) R) (by rw [(F1.2.2 220 27 (by unfold AN; omega)).1]; exact c) hs
      exact ⟨h', G, a1, a2, a3, (F1.mono (fun r k e => e.elim Or.inl (fun z => Or.inr (Or.inr ⟨z.1, Or.inl z.2⟩)))).tr a4⟩
    show ∃ h', fX7_under_b31 _ _ _ _ _ _ _ _ _ = _ ∧ _
    have r5 := Row5_get R (by rw [List.reverse_reverse]; exact hg)
    have e0 : (i32 (5 * (k : Int))).toNatClampNeg = 5 * k := by rw [i32_nat (by omega) (by omega)]; omega
    have e1 : (i32 (5 * (k : Int) + 1)).toNatClampNeg = 5 * k + 1 := by rw [i32_nat (by omega) (by omega)]; omega
    have e2 : (i32 (5 * (k : Int) + 2)).toNatClampNeg = 5 * k + 2 := by rw [i32_nat (by omega) (by omega)]; omega
    have e3 : (i32 (5 * (k : Int) + 3)).toNatClampNeg = 5 * k + 3 := by rw [i32_nat (by omega) (by omega)]; omega
    have e4 : (i32 (5 * (k : Int) + 4)).toNatClampNeg = 5 * k + 4 := by rw [i32_nat (by omega) (by omega)]; omega
    have x0 : ix (i32 (5 * (k : Int))) 16000 := ix_i (by omega) (by omega) (by decide)
    have x1 : ix (i32 (5 * (k : Int) + 1)) 16000 := ix_i (by omega) (by omega) (by decide)
    have x2 : ix (i32 (5 * (k : Int) + 2)) 16000 := ix_i (by omega) (by omega) (by decide)
    have x3 : ix (i32 (5 * (k : Int) + 3)) 16000 := ix_i (by omega) (by omega) (by decide)
    have x4 : ix (i32 (5 * (k : Int) + 4)) 16000 := ix_i (by omega) (by omega) (by decide)
    have mF : fX7_lie (i64 pc.2.1.num) (i64 pc.2.1.den) (i64 F.num) (1 : Int64) h = some (i32 (sg (pc.2.1.num * F.den - F.num * pc.2.1.den)), h) := by
      rw [← dF, m_lieR h kk.2.2.1 kk.2.2.2 hpb.2.1 pF]
    have mT : fX7_lie (i64 pc.1.num) (i64 pc.1.den) (i64 T.num) (1 : Int64) h = some (i32 (sg (pc.1.num * T.den - T.num * pc.1.den)), h) := by
      rw [← dT, m_lieR h kk.2.2.1 kk.2.2.2 hpb.1 pT]
    unfold fX7_under_b31
    rw [if_pos q.1.k220, c, if_neg (fun z => by have := (i32_le ⟨by omega, by omega⟩ ⟨by omega, by omega⟩).mp z; omega)]
    simp only [lt_def, q.1.r28, q.1.k241, q.1.l241, fiv32, i32_mul, one32, two32, thr32, fou32, i32_add, if_pos x0, if_pos x1, if_pos x2, if_pos x3, if_pos x4, e0, e1, e2, e3, e4, r5.1, r5.2.1, r5.2.2.1, r5.2.2.2.1, r5.2.2.2.2, i32_of64, reduceIte]
    unfold fX7_under_b125
    rw [mF, bd_some, mT, bd_some]
    by_cases g1 : pc.2.1 ≤ F
    · rw [if_pos ((si_le _).mpr (sr_le.mpr g1))]
      obtain ⟨h1, G1, N1, F1⟩ := st30 1 (by rw [if_pos (Or.inl g1)])
      rw [G1]; exact fin h1 N1 F1
    · rw [if_neg (fun z => g1 (sr_le.mp ((si_le _).mp z)))]
      by_cases g2 : T ≤ pc.1
      · rw [if_neg (fun z => by have := sr_lt.mp ((si_lt _).mp z); grind)]
        obtain ⟨h1, G1, N1, F1⟩ := st30 1 (by rw [if_pos (Or.inr g2)])
        rw [G1]; exact fin h1 N1 F1
      · rw [if_pos ((si_lt _).mpr (sr_lt.mpr (by grind)))]
        obtain ⟨h1, G1, N1, F1⟩ := st30 0 (by rw [if_neg (fun z => z.elim g1 g2)])
        rw [G1]; exact fin h1 N1 F1
theorem m_under (kk : Kon MA MB MC NP NQ) {h : xH} (q : Mo h) (w : Lns h L n) (hn : n ≤ 700) (hl : l < n) (bL : ∀ k, k < n → LBd MA MB MC (L k)) (pF : Pt NP NQ (lnF (L l))) (pT : Pt NP NQ (lnT (L l))) (b1 : B32 (lnF (L l))) (b2 : B32 (lnT (L l))) (hFT : lnF (L l) < lnT (L l)) (xb : ∀ o, o < l → (∃ sd x, lv L sd x l ∧ lv L sd x o) → XB NP NQ (L l) (L o)) (env : EnvN L l ps) (R : Row5 h 241 ps.reverse) (c : hI h 220 27 = i32 ps.length) (pb : PB NP NQ ps) (hps : ps.length ≤ 3200) (hs : (underN L l ps).length ≤ 3200) :
    ∃ h', fX7_under 220 (i32 l) h = some ((), h') ∧ Row5 h' 241 (underN L l ps) ∧ hI h' 220 27 = i32 (underN L l ps).length ∧ PB NP NQ (underN L l ps) ∧ Fr AU h h' := by
  have f : Fr AU h (sI h 220 30 0) := Fr.I _ (Or.inr (Or.inr ⟨rfl, Or.inl rfl⟩))
  have hR : (lnF (L l) : Rat) < (lnT (L l) : Rat) := by exact_mod_cast hFT
  obtain ⟨h', G, a1, a2, a3, a4⟩ := m_ul (F := (lnF (L l) : Rat)) (T := (lnT (L l) : Rat)) (ps := ps) kk hn hl bL rfl rfl pF pT hR xb hps pb (fun pc hm => env.1.1 pc (List.mem_reverse.mpr hm)) (fun pc hm sd x u v => (env.2 sd x pc.2.2).mp ⟨pc, hm, rfl, u, v⟩) ps 0 FU ([], (lnF (L l) : Rat)) (sI h 220 30 0) rfl (by omega) (by rw [FU_eq]; omega) (w.fr f (fun r k g1 g2 => by unfold AU; omega)) ⟨f.mo q, trivial, by rw [hI_sI, if_pos ⟨rfl, rfl⟩]; rfl, fun q hq => by cases hq⟩ pF (by grind) (Row5_cg (fun j _ => by rw [hJ_sI]) R) (by rw [hI_sI, if_neg (by omega)]; exact c) hs
  refine ⟨h', ?_, a1, a2, a3, f.tr a4⟩
  unfold fX7_under
  have e1 := nat_i l (by omega)
  have x1 : ix (i32 l) 700 := ix_i (by omega) (by omega) (by decide)
  simp only [lt_def, q.k220, q.r20, q.r21, q.k235, q.k236, q.l235, q.l236, if_pos x1, e1, (w l hl).1, (w l hl).2.1, i64_of32 b1, i64_of32 b2, reduceIte]
  rw [Rat.num_intCast, Rat.num_intCast, int_den] at G
  exact G
end UM
