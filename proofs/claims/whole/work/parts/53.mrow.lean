/-! THE REFERENCE'S ROWS: frames, rows of pieces, addNew -/
def Fr (A : Nat → Nat → Prop) (h h' : xH) : Prop := h'.1 = h.1 ∧ h'.2.2.2 = h.2.2.2 ∧ ∀ r k, ¬ A r k → hI h' r k = hI h r k ∧ hJ h' r k = hJ h r k
theorem Fr.rf {A : Nat → Nat → Prop} (h : xH) : Fr A h h := ⟨rfl, rfl, fun _ _ _ => ⟨rfl, rfl⟩⟩
theorem Fr.tr {A : Nat → Nat → Prop} {a b c : xH} (u : Fr A a b) (v : Fr A b c) : Fr A a c := ⟨v.1.trans u.1, v.2.1.trans u.2.1, fun r k q => ⟨(v.2.2 r k q).1.trans (u.2.2 r k q).1, (v.2.2 r k q).2.trans (u.2.2 r k q).2⟩⟩
theorem Fr.mono {A B : Nat → Nat → Prop} {a b : xH} (u : Fr A a b) (hAB : ∀ r k, A r k → B r k) : Fr B a b := ⟨u.1, u.2.1, fun r k q => u.2.2 r k (fun z => q (hAB r k z))⟩
theorem Fr.mo {A : Nat → Nat → Prop} {a b : xH} (u : Fr A a b) (q : Mo a) : Mo b := by
  refine ⟨fun r h1 h2 => ?_, fun k => ?_⟩
  · rw [← q.1 r h1 h2]; unfold xkd; rw [u.1]
  · rw [← q.2 k]; unfold hR; rw [u.2.1]
theorem Fr.I {A : Nat → Nat → Prop} {h : xH} {r k : Nat} (v : Int32) (a : A r k) : Fr A h (sI h r k v) := ⟨rfl, rfl, fun r' k' q => ⟨by rw [hI_sI, if_neg]; intro e; rw [e.1, e.2] at q; exact q a, rfl⟩⟩
theorem Fr.J {A : Nat → Nat → Prop} {h : xH} {r k : Nat} (v : Int64) (a : A r k) : Fr A h (sJ h r k v) := ⟨rfl, rfl, fun r' k' q => ⟨rfl, by rw [hJ_sJ, if_neg]; intro e; rw [e.1, e.2] at q; exact q a⟩⟩
def Row5 (h : xH) (r : Nat) : List Pie → Prop
  | [] => True
  | q :: t => (hJ h r (5 * t.length) = i64 q.1.num ∧ hJ h r (5 * t.length + 1) = i64 q.1.den ∧ hJ h r (5 * t.length + 2) = i64 q.2.1.num ∧ hJ h r (5 * t.length + 3) = i64 q.2.1.den ∧ hJ h r (5 * t.length + 4) = i64 q.2.2) ∧ Row5 h r t
theorem Row5_cg {h h' : xH} {r r' : Nat} : ∀ {acc : List Pie}, (∀ j, j < 5 * acc.length → hJ h' r' j = hJ h r j) → Row5 h r acc → Row5 h' r' acc
  | [], _, _ => trivial
  | q :: t, e, w => by
    have hl : (q :: t).length = t.length + 1 := rfl
    refine ⟨?_, Row5_cg (fun j hj => e j (by omega)) w.2⟩
    rw [e _ (by omega), e _ (by omega), e _ (by omega), e _ (by omega), e _ (by omega)]
    exact w.1
theorem Row5_get {h : xH} {r : Nat} : ∀ {acc : List Pie} {k : Nat} {q : Pie}, Row5 h r acc → acc.reverse[k]? = some q → hJ h r (5 * k) = i64 q.1.num ∧ hJ h r (5 * k + 1) = i64 q.1.den ∧ hJ h r (5 * k + 2) = i64 q.2.1.num ∧ hJ h r (5 * k + 3) = i64 q.2.1.den ∧ hJ h r (5 * k + 4) = i64 q.2.2
  | [], k, q, _, e => by simp at e
  | p :: t, k, q, w, e => by
    rw [List.reverse_cons] at e
    by_cases hk : k < t.length
    · rw [List.getElem?_append_left (by rw [List.length_reverse]; exact hk)] at e
      exact Row5_get w.2 e
    · rw [List.getElem?_append_right (by rw [List.length_reverse]; omega), List.length_reverse] at e
      by_cases hk2 : k = t.length
      · rw [hk2, Nat.sub_self] at e
        have e' : p = q := by simpa using e
        rw [hk2, ← e']; exact w.1
      · rw [List.getElem?_eq_none (by simp; omega)] at e
        cases e
def PB (NP NQ : Int) (acc : List Pie) : Prop := ∀ q ∈ acc, Pt NP NQ q.1 ∧ Pt NP NQ q.2.1 ∧ q.2.2 < 700
theorem addN_PB {NP NQ : Int} {acc : List Pie} {a b : Rat} {o : Nat} (w : PB NP NQ acc) (ha : Pt NP NQ a) (hb : Pt NP NQ b) (ho : o < 700) : PB NP NQ (addN acc a b o) := by
  unfold addN
  split
  · exact w
  · split
    · intro q hq
      have : q = (a, b, o) := by simpa using hq
      rw [this]; exact ⟨ha, hb, ho⟩
    · rename_i p t
      split
      · intro q hq
        rcases List.mem_cons.mp hq with e | e
        · rw [e]; exact ⟨(w p (List.mem_cons_self ..)).1, hb, ho⟩
        · exact w q (List.mem_cons_of_mem _ e)
      · intro q hq
        rcases List.mem_cons.mp hq with e | e
        · rw [e]; exact ⟨ha, hb, ho⟩
        · exact w q e
theorem addN_len (acc : List Pie) (a b : Rat) (o : Nat) : acc.length ≤ (addN acc a b o).length := by
  unfold addN
  split
  · exact Nat.le_refl _
  · split
    · exact Nat.zero_le _
    · split
      · exact Nat.le_refl _
      · exact Nat.le_succ _
def Nw (NP NQ : Int) (h : xH) (acc : List Pie) : Prop := Mo h ∧ Row5 h 242 acc ∧ hI h 220 30 = i32 acc.length ∧ PB NP NQ acc
def AN (r k : Nat) : Prop := r = 242 ∨ (r = 220 ∧ k = 30)
theorem two32 : (2 : Int32) = i32 2 := rfl
theorem thr32 : (3 : Int32) = i32 3 := rfl
theorem fou32 : (4 : Int32) = i32 4 := rfl
theorem fiv32 : (5 : Int32) = i32 5 := rfl
theorem m_an92 {h : xH} (q : Mo h) {n : Nat} (hn : n < 3200) (hl : hI h 220 30 = i32 n) (a b c d e : Int64) : fX7_addNew_b92 220 a b c d e (i32 (5 * (n : Int))) h = some ((), sI (sJ (sJ (sJ (sJ (sJ h 242 (5 * n) a) 242 (5 * n + 1) b) 242 (5 * n + 2) c) 242 (5 * n + 3) d) 242 (5 * n + 4) e) 220 30 (i32 ((n : Int) + 1))) := by
  unfold fX7_addNew_b92
  have e0 : (i32 (5 * (n : Int))).toNatClampNeg = 5 * n := by rw [i32_nat (by omega) (by omega)]; omega
  have e1 : (i32 (5 * (n : Int) + 1)).toNatClampNeg = 5 * n + 1 := by rw [i32_nat (by omega) (by omega)]; omega
  have e2 : (i32 (5 * (n : Int) + 2)).toNatClampNeg = 5 * n + 2 := by rw [i32_nat (by omega) (by omega)]; omega
  have e3 : (i32 (5 * (n : Int) + 3)).toNatClampNeg = 5 * n + 3 := by rw [i32_nat (by omega) (by omega)]; omega
  have e4 : (i32 (5 * (n : Int) + 4)).toNatClampNeg = 5 * n + 4 := by rw [i32_nat (by omega) (by omega)]; omega
  have x0 : ix (i32 (5 * (n : Int))) 16000 := ix_i (by omega) (by omega) (by decide)
  have x1 : ix (i32 (5 * (n : Int) + 1)) 16000 := ix_i (by omega) (by omega) (by decide)
  have x2 : ix (i32 (5 * (n : Int) + 2)) 16000 := ix_i (by omega) (by omega) (by decide)
  have x3 : ix (i32 (5 * (n : Int) + 3)) 16000 := ix_i (by omega) (by omega) (by decide)
  have x4 : ix (i32 (5 * (n : Int) + 4)) 16000 := ix_i (by omega) (by omega) (by decide)
  simp only [lt_def, kc_sJ, kl_sJ, hR_sJ, hI_sJ, q.k220, q.r29, q.k242, q.l242, hl, one32, two32, thr32, fou32, i32_add, e0, e1, e2, e3, e4, if_pos x0, if_pos x1, if_pos x2, if_pos x3, if_pos x4, reduceIte]
theorem row_92 {h : xH} {acc : List Pie} (w : Row5 h 242 acc) (a b : Rat) (o : Nat) (v : Int32) : Row5 (sI (sJ (sJ (sJ (sJ (sJ h 242 (5 * acc.length) (i64 a.num)) 242 (5 * acc.length + 1) (i64 a.den)) 242 (5 * acc.length + 2) (i64 b.num)) 242 (5 * acc.length + 3) (i64 b.den)) 242 (5 * acc.length + 4) (i64 o)) 220 30 v) 242 ((a, b, o) :: acc) := by
  refine ⟨?_, Row5_cg (fun j hj => ?_) w⟩
  · refine ⟨?_, ?_, ?_, ?_, ?_⟩
    · simp only [hJ_sI, hJ_sJ]; rw [if_neg (by omega), if_neg (by omega), if_neg (by omega), if_neg (by omega), if_pos ⟨trivial, trivial⟩]
    · simp only [hJ_sI, hJ_sJ]; rw [if_neg (by omega), if_neg (by omega), if_neg (by omega), if_pos ⟨trivial, trivial⟩]
    · simp only [hJ_sI, hJ_sJ]; rw [if_neg (by omega), if_neg (by omega), if_pos ⟨trivial, trivial⟩]
    · simp only [hJ_sI, hJ_sJ]; rw [if_neg (by omega), if_pos ⟨trivial, trivial⟩]
    · simp only [hJ_sI, hJ_sJ]; rw [if_pos ⟨trivial, trivial⟩]
  · simp only [hJ_sI, hJ_sJ]; rw [if_neg (by omega), if_neg (by omega), if_neg (by omega), if_neg (by omega), if_neg (by omega)]
theorem fr_92 {h : xH} (n : Nat) (a b c d e : Int64) (v : Int32) : Fr AN h (sI (sJ (sJ (sJ (sJ (sJ h 242 (5 * n) a) 242 (5 * n + 1) b) 242 (5 * n + 2) c) 242 (5 * n + 3) d) 242 (5 * n + 4) e) 220 30 v) :=
  ((((((Fr.J a (Or.inl rfl)).tr (Fr.J b (Or.inl rfl))).tr (Fr.J c (Or.inl rfl))).tr (Fr.J d (Or.inl rfl))).tr (Fr.J e (Or.inl rfl))).tr (Fr.I v (Or.inr ⟨rfl, rfl⟩)))
theorem an_push {NP NQ : Int} {h : xH} {acc : List Pie} (w : Nw NP NQ h acc) {a b : Rat} (ha : Pt NP NQ a) (hb : Pt NP NQ b) {o : Nat} (ho : o < 700) (hs : acc.length < 3200) : ∃ h', fX7_addNew_b92 220 (i64 a.num) (i64 a.den) (i64 b.num) (i64 b.den) (i64 o) (i32 (5 * (acc.length : Int))) h = some ((), h') ∧ Nw NP NQ h' ((a, b, o) :: acc) ∧ Fr AN h h' := by
  refine ⟨_, m_an92 w.1 hs w.2.2.1 _ _ _ _ _, ⟨(fr_92 _ _ _ _ _ _ _).mo w.1, row_92 w.2.1 a b o _, ?_, ?_⟩, fr_92 _ _ _ _ _ _ _⟩
  · rw [hI_sI, if_pos ⟨rfl, rfl⟩, List.length_cons]; rfl
  · intro q hq
    rcases List.mem_cons.mp hq with e | e
    · rw [e]; exact ⟨ha, hb, ho⟩
    · exact w.2.2.2 q e
theorem m_addNew {NP NQ : Int} (h1 : NP ≤ 4611686018427387904) (h2 : NQ ≤ 4611686018427387904) {h : xH} {acc : List Pie} (w : Nw NP NQ h acc) {a b : Rat} (ha : Pt NP NQ a) (hb : Pt NP NQ b) {o : Nat} (ho : o < 700) (hs : (addN acc a b o).length ≤ 3200) : ∃ h', fX7_addNew 220 (i64 a.num) (i64 a.den) (i64 b.num) (i64 b.den) (i64 o) h = some ((), h') ∧ Nw NP NQ h' (addN acc a b o) ∧ Fr AN h h' := by
  unfold fX7_addNew
  rw [m_lieR h h1 h2 ha hb, bd_some]
  by_cases hab : b ≤ a
  · rw [if_neg (fun z => by have := sr_lt.mp ((si_lt _).mp z); grind)]
    refine ⟨h, rfl, ?_, Fr.rf h⟩
    unfold addN; rw [if_pos hab]; exact w
  rw [if_pos ((si_lt _).mpr (sr_lt.mpr (by grind))), if_pos w.1.k220, lt_def, w.2.2.1, fiv32, i32_mul]
  unfold addN at hs ⊢
  rw [if_neg hab] at hs ⊢
  cases acc with
  | nil =>
    rw [if_pos (by decide)]
    exact an_push w ha hb ho (by decide)
  | cons p t =>
    have hlen : (p :: t).length = t.length + 1 := rfl
    have hp := w.2.2.2 p (List.mem_cons_self ..)
    have ht : t.length < 3200 := by
      simp only at hs
      split at hs
      · simp at hs; omega
      · simp at hs; omega
    have hn0 : ¬ i32 ((p :: t).length : Nat) ≤ 0 := fun z => by
      have := (i32_le (b := 0) ⟨by omega, by omega⟩ ⟨by decide, by decide⟩).mp z
      omega
    rw [if_neg hn0, w.1.r29, if_pos w.1.k242, w.1.l242, one32, two32, thr32, i32_sub, i32_sub, i32_sub]
    have e1 : (i32 (5 * ((p :: t).length : Nat) - 1)).toNatClampNeg = 5 * t.length + 4 := by rw [i32_nat (by omega) (by omega)]; omega
    have e2 : (i32 (5 * ((p :: t).length : Nat) - 2)).toNatClampNeg = 5 * t.length + 3 := by rw [i32_nat (by omega) (by omega)]; omega
    have e3 : (i32 (5 * ((p :: t).length : Nat) - 3)).toNatClampNeg = 5 * t.length + 2 := by rw [i32_nat (by omega) (by omega)]; omega
    have x1 : ix (i32 (5 * ((p :: t).length : Nat) - 1)) 16000 := ix_i (by omega) (by omega) (by decide)
    have x2 : ix (i32 (5 * ((p :: t).length : Nat) - 2)) 16000 := ix_i (by omega) (by omega) (by decide)
    have x3 : ix (i32 (5 * ((p :: t).length : Nat) - 3)) 16000 := ix_i (by omega) (by omega) (by decide)
    have r5 := w.2.1.1
    rw [if_pos x1, e1, r5.2.2.2.2]
    have B1 : B64 (p.2.2 : Int) := ⟨by omega, by have := hp.2.2; omega⟩
    have B2 : B64 (o : Int) := ⟨by omega, by omega⟩
    by_cases ho2 : p.2.2 = o
    · rw [if_pos ((lz_eq B1 B2).mpr (by rw [ho2])), if_pos x3, if_pos x2]
      simp only [e2, e3, r5.2.2.1, r5.2.2.2.1]
      rw [m_lieR h h1 h2 hp.2.1 ha, bd_some]
      by_cases he : p.2.1 = a
      · rw [if_pos ((si_eq _).mpr (sr_eq.mpr he))]
        simp only [lt_def, kc_sJ, kl_sJ, hR_sJ, w.1.r29, w.1.k242, w.1.l242, if_pos x3, if_pos x2, reduceIte]
        rw [if_pos ⟨ho2, he⟩]
        have f : Fr AN h (sJ (sJ h 242 (5 * t.length + 2) (i64 b.num)) 242 (5 * t.length + 3) (i64 b.den)) := (Fr.J _ (Or.inl rfl)).tr (Fr.J _ (Or.inl rfl))
        refine ⟨_, rfl, ⟨f.mo w.1, ⟨⟨?_, ?_, ?_, ?_, ?_⟩, Row5_cg (fun j hj => ?_) w.2.1.2⟩, ?_, ?_⟩, f⟩
        · simp only [hJ_sJ]; rw [if_neg (by omega), if_neg (by omega)]; exact r5.1
        · simp only [hJ_sJ]; rw [if_neg (by omega), if_neg (by omega)]; exact r5.2.1
        · simp only [hJ_sJ]; rw [if_neg (by omega), if_pos ⟨trivial, trivial⟩]
        · simp only [hJ_sJ]; rw [if_pos ⟨trivial, trivial⟩]
        · simp only [hJ_sJ]; rw [if_neg (by omega), if_neg (by omega)]; rw [← ho2]; exact r5.2.2.2.2
        · simp only [hJ_sJ]; rw [if_neg (by omega), if_neg (by omega)]
        · rw [hI_sJ, hI_sJ, w.2.2.1]; rfl
        · intro q hq
          rcases List.mem_cons.mp hq with e | e
          · rw [e]; exact ⟨hp.1, hb, ho⟩
          · exact w.2.2.2 q (List.mem_cons_of_mem _ e)
      · rw [if_neg (fun z => he (sr_eq.mp ((si_eq _).mp z)))]
        simp only at hs ⊢
        rw [if_neg (fun z => he z.2)] at hs ⊢
        exact an_push w ha hb ho (by simp at hs ⊢; omega)
    · rw [if_neg (fun z => ho2 (by have := (lz_eq B1 B2).mp z; omega))]
      simp only at hs ⊢
      rw [if_neg (fun z => ho2 z.1)] at hs ⊢
      exact an_push w ha hb ho (by simp at hs ⊢; omega)
