/-! THE REFERENCE'S BREAKS -/
def Row2 (h : xH) (bs : List Rat) : Prop := ∀ i y, bs[i]? = some y → hJ h 243 (2 * i) = i64 y.num ∧ hJ h 243 (2 * i + 1) = i64 y.den
def Bk (NP NQ : Int) (h : xH) (bs : List Rat) : Prop := Mo h ∧ Row2 h bs ∧ hI h 220 31 = i32 bs.length ∧ (∀ y ∈ bs, Pt NP NQ y) ∧ bs.Pairwise (fun a b => a < b)
def AB (r k : Nat) : Prop := r = 243 ∨ (r = 220 ∧ k = 31)
theorem hJ_ss (h : xH) (r k : Nat) (v : Int64) (k' : Nat) : hJ (sJ h r k v) r k' = if k' = k then v else hJ h r k' := by
  rw [hJ_sJ]
  by_cases e : k' = k
  · rw [if_pos ⟨rfl, e⟩, if_pos e]
  · rw [if_neg (fun z => e z.2), if_neg e]
theorem m_shift {k : Nat} (a1 a3 : Int64) : ∀ (d m : Nat) (h : xH), Mo h → 2 * k + 1 + d < 8000 → d < m → ∃ h', fX7_addBreak_l93 m 220 a1 a3 (i32 k) (i32 ((2 * k + 1 + d : Nat) : Int)) h = some ((), h') ∧ Fr AB h h' ∧ hI h' 220 31 = hI h 220 31 + 1 ∧ ∀ i, hJ h' 243 i = if i < 2 * k then hJ h 243 i else if i = 2 * k then a1 else if i = 2 * k + 1 then a3 else if i ≤ 2 * k + 1 + d then hJ h 243 (i - 2) else hJ h 243 i := by
  intro d
  have y0 : (i32 (2 * (k : Int))).toNatClampNeg = (2 * (k : Int)).toNat ∨ 4000 ≤ k := by
    by_cases e : 4000 ≤ k
    · exact Or.inr e
    · exact Or.inl (i32_nat (by omega) (by omega))
  induction d with
  | zero =>
    intro m h q hb hm
    obtain ⟨m, rfl⟩ : ∃ k, m = k + 1 := ⟨m - 1, by omega⟩
    have f : Fr AB h (sI (sJ (sJ h 243 (2 * k) a1) 243 (2 * k + 1) a3) 220 31 (hI h 220 31 + 1)) := ((Fr.J _ (Or.inl rfl)).tr (Fr.J _ (Or.inl rfl))).tr (Fr.I _ (Or.inr ⟨rfl, rfl⟩))
    refine ⟨sI (sJ (sJ h 243 (2 * k) a1) 243 (2 * k + 1) a3) 220 31 (hI h 220 31 + 1), ?_, f, by rw [hI_sI, if_pos ⟨rfl, rfl⟩], ?_⟩
    · show fX7_addBreak_b93 _ _ _ _ _ _ _ = _
      unfold fX7_addBreak_b93
      have e0 : (i32 (2 * (k : Int))).toNatClampNeg = 2 * k := by rw [i32_nat (by omega) (by omega)]; omega
      have e1 : (i32 (2 * (k : Int) + 1)).toNatClampNeg = 2 * k + 1 := by rw [i32_nat (by omega) (by omega)]; omega
      have x0 : ix (i32 (2 * (k : Int))) 8000 := ix_i (by omega) (by omega) (by decide)
      have x1 : ix (i32 (2 * (k : Int) + 1)) 8000 := ix_i (by omega) (by omega) (by decide)
      simp only [two32, i32_mul, i32_add]
      rw [if_pos ((i32_lt ⟨by omega, by omega⟩ ⟨by omega, by omega⟩).mpr (by omega))]
      simp only [lt_def, kc_sJ, kl_sJ, hR_sJ, hI_sJ, q.k220, q.r32, q.k243, q.l243, e0, if_pos x0, reduceIte]
      rw [show i32 (2 * (k : Int)) + 1 = i32 (2 * (k : Int) + 1) from by rw [one32, i32_add], if_pos x1, e1]
    · intro i
      rw [hJ_sI, hJ_ss, hJ_ss]
      (repeat' split) <;> first | rfl | (exfalso; omega) | (congr 1; omega)
  | succ d ih =>
    intro m h q hb hm
    obtain ⟨m, rfl⟩ : ∃ k, m = k + 1 := ⟨m - 1, by omega⟩
    have f : Fr AB h (sJ h 243 (2 * k + 1 + (d + 1)) (hJ h 243 (2 * k + d))) := Fr.J _ (Or.inl rfl)
    obtain ⟨h', G, F, C, D⟩ := ih m (sJ h 243 (2 * k + 1 + (d + 1)) (hJ h 243 (2 * k + d))) (f.mo q) (by omega) (by omega)
    refine ⟨h', ?_, f.tr F, by rw [C, hI_sJ], fun i => ?_⟩
    · rw [← G]
      show fX7_addBreak_b93 _ _ _ _ _ _ _ = _
      unfold fX7_addBreak_b93
      have e0 : (i32 ((2 * k + 1 + (d + 1) : Nat) : Int)).toNatClampNeg = 2 * k + 1 + (d + 1) := nat_i _ (by omega)
      have e1 : (i32 (((2 * k + 1 + (d + 1) : Nat) : Int) - 2)).toNatClampNeg = 2 * k + d := by rw [i32_nat (by omega) (by omega)]; omega
      have x0 : ix (i32 ((2 * k + 1 + (d + 1) : Nat) : Int)) 8000 := ix_i (by omega) (by omega) (by decide)
      have x1 : ix (i32 (((2 * k + 1 + (d + 1) : Nat) : Int) - 2)) 8000 := ix_i (by omega) (by omega) (by decide)
      have e2 : i32 ((2 * k + 1 + (d + 1) : Nat) : Int) + -1 = i32 ((2 * k + 1 + d : Nat) : Int) := by
        rw [show (-1 : Int32) = i32 (-1) from rfl, i32_add]; congr 1; omega
      simp only [two32, i32_mul, i32_add, i32_sub]
      rw [if_neg (fun z => by have := (i32_lt ⟨by omega, by omega⟩ ⟨by omega, by omega⟩).mp z; omega)]
      simp only [lt_def, q.k220, q.r32, q.k243, q.l243, e0, e1, e2, if_pos x0, if_pos x1, reduceIte]
    · rw [D i, hJ_ss, hJ_ss]
      (repeat' split) <;> first | rfl | (exfalso; omega) | (congr 1; omega)
theorem m_b83 {NP NQ : Int} {h : xH} {bs : List Rat} (q : Bk NP NQ h bs) (hs : bs.length < 4000) {x : Rat} (hx : Pt NP NQ x) {k : Nat} (hk : k ≤ bs.length) (lo : ∀ i y, i < k → bs[i]? = some y → y < x) (hi : ∀ i y, k ≤ i → bs[i]? = some y → x < y) : ∃ h' bs', fX7_addBreak_b83 220 (i64 x.num) (i64 x.den) (i32 k) h = some ((), h') ∧ Bk NP NQ h' bs' ∧ (∀ y, y ∈ bs' ↔ y = x ∨ y ∈ bs) ∧ bs'.length ≤ bs.length + 1 ∧ Fr AB h h' := by
  obtain ⟨h', G, F, C, D⟩ := m_shift (k := k) (i64 x.num) (i64 x.den) (2 * (bs.length - k)) FU h q.1 (by omega) (by rw [FU_eq]; omega)
  have hmem : ∀ y, y ∈ bs.take k ++ x :: bs.drop k ↔ y = x ∨ y ∈ bs := by
    intro y
    have e : y ∈ bs ↔ y ∈ bs.take k ∨ y ∈ bs.drop k := by rw [← List.mem_append, List.take_append_drop]
    rw [e]
    simp only [List.mem_append, List.mem_cons]
    constructor
    · rintro (a | a | a)
      · exact Or.inr (Or.inl a)
      · exact Or.inl a
      · exact Or.inr (Or.inr a)
    · rintro (a | a | a)
      · exact Or.inr (Or.inl a)
      · exact Or.inl a
      · exact Or.inr (Or.inr a)
  have hlt : (bs.take k).length = k := by rw [List.length_take]; omega
  have hlen : (bs.take k ++ x :: bs.drop k).length = bs.length + 1 := by
    rw [List.length_append, List.length_cons, hlt, List.length_drop]; omega
  have tk : ∀ y ∈ bs.take k, y < x := by
    intro y hy
    obtain ⟨i, hi1⟩ := List.getElem?_of_mem hy
    have hik : i < k := by
      have := (List.getElem?_eq_some_iff.mp hi1).1
      omega
    rw [List.getElem?_take_of_lt hik] at hi1
    exact lo i y hik hi1
  have dk : ∀ y ∈ bs.drop k, x < y := by
    intro y hy
    obtain ⟨i, hi1⟩ := List.getElem?_of_mem hy
    rw [List.getElem?_drop] at hi1
    exact hi (k + i) y (by omega) hi1
  refine ⟨h', bs.take k ++ x :: bs.drop k, ?_, ⟨F.mo q.1, ?_, ?_, ?_, ?_⟩, hmem, by omega, F⟩
  · unfold fX7_addBreak_b83
    rw [if_pos q.1.k220, lt_def, q.2.2.1, two32, one32, i32_mul, i32_add, ← G]
    congr 2; omega
  · intro i y e
    by_cases c1 : i < k
    · rw [List.getElem?_append_left (by omega), List.getElem?_take_of_lt c1] at e
      have u := q.2.1 i y e
      rw [D (2 * i), if_pos (show 2 * i < 2 * k by omega), D (2 * i + 1), if_pos (show 2 * i + 1 < 2 * k by omega)]
      exact u
    · rw [List.getElem?_append_right (by omega), hlt] at e
      by_cases c2 : i = k
      · rw [c2, Nat.sub_self] at e
        have e' : x = y := by simpa using e
        rw [c2, D (2 * k), if_neg (show ¬ 2 * k < 2 * k by omega), if_pos rfl, D (2 * k + 1), if_neg (show ¬ 2 * k + 1 < 2 * k by omega), if_neg (show ¬ 2 * k + 1 = 2 * k by omega), if_pos rfl, e']
        exact ⟨rfl, rfl⟩
      · rw [show i - k = (i - k - 1) + 1 by omega, List.getElem?_cons_succ, List.getElem?_drop, show k + (i - k - 1) = i - 1 by omega] at e
        have hib : i - 1 < bs.length := (List.getElem?_eq_some_iff.mp e).1
        have u := q.2.1 (i - 1) y e
        constructor
        · rw [← u.1, D (2 * i), if_neg (show ¬ 2 * i < 2 * k by omega), if_neg (show ¬ 2 * i = 2 * k by omega), if_neg (show ¬ 2 * i = 2 * k + 1 by omega), if_pos (show 2 * i ≤ 2 * k + 1 + 2 * (bs.length - k) by omega)]
          congr 1; omega
        · rw [← u.2, D (2 * i + 1), if_neg (show ¬ 2 * i + 1 < 2 * k by omega), if_neg (show ¬ 2 * i + 1 = 2 * k by omega), if_neg (show ¬ 2 * i + 1 = 2 * k + 1 by omega), if_pos (show 2 * i + 1 ≤ 2 * k + 1 + 2 * (bs.length - k) by omega)]
          congr 1; omega
  · rw [C, q.2.2.1, one32, i32_add, hlen]; rfl
  · intro y hy
    rcases (hmem y).mp hy with e | e
    · rw [e]; exact hx
    · exact q.2.2.2.1 y e
  · have sp := q.2.2.2.2
    rw [← List.take_append_drop k bs, List.pairwise_append] at sp
    rw [List.pairwise_append, List.pairwise_cons]
    refine ⟨sp.1, ⟨dk, sp.2.1⟩, fun a ha b hb => ?_⟩
    rcases List.mem_cons.mp hb with e | e
    · rw [e]; exact tk a ha
    · exact sp.2.2 a ha b e
theorem m_ab6 {NP NQ : Int} (h1 : NP ≤ 4611686018427387904) (h2 : NQ ≤ 4611686018427387904) {h : xH} {bs : List Rat} (q : Bk NP NQ h bs) (hs : bs.length < 4000) {x : Rat} (hx : Pt NP NQ x) : ∀ (k m : Nat), k < m → k ≤ bs.length → (∀ i y, k ≤ i → bs[i]? = some y → x < y) → ∃ h' bs', fX7_addBreak_l6 m 220 (i64 x.num) (i64 x.den) (i32 k) h = some ((), h') ∧ Bk NP NQ h' bs' ∧ (∀ y, y ∈ bs' ↔ y = x ∨ y ∈ bs) ∧ bs'.length ≤ bs.length + 1 ∧ Fr AB h h' := by
  intro k
  induction k with
  | zero =>
    intro m hm hk hi
    obtain ⟨m, rfl⟩ : ∃ k, m = k + 1 := ⟨m - 1, by omega⟩
    show ∃ h' bs', fX7_addBreak_b6 _ _ _ _ _ _ = _ ∧ _
    unfold fX7_addBreak_b6 fX7_addBreak_b47
    rw [if_pos (by decide), if_pos (by decide)]
    exact m_b83 q hs hx hk (fun i y h => by omega) hi
  | succ k ih =>
    intro m hm hk hi
    obtain ⟨m, rfl⟩ : ∃ k, m = k + 1 := ⟨m - 1, by omega⟩
    show ∃ h' bs', fX7_addBreak_b6 _ _ _ _ _ _ = _ ∧ _
    have hn0 : ¬ i32 ((k + 1 : Nat) : Int) ≤ 0 := fun z => by
      have := (i32_le (b := 0) ⟨by omega, by omega⟩ ⟨by decide, by decide⟩).mp z
      omega
    have e2 : (i32 (2 * ((k + 1 : Nat) : Int) - 2)).toNatClampNeg = 2 * k := by rw [i32_nat (by omega) (by omega)]; omega
    have e1 : (i32 (2 * ((k + 1 : Nat) : Int) - 1)).toNatClampNeg = 2 * k + 1 := by rw [i32_nat (by omega) (by omega)]; omega
    have x2 : ix (i32 (2 * ((k + 1 : Nat) : Int) - 2)) 8000 := ix_i (by omega) (by omega) (by decide)
    have x1 : ix (i32 (2 * ((k + 1 : Nat) : Int) - 1)) 8000 := ix_i (by omega) (by omega) (by decide)
    have hy : bs[k]? = some bs[k] := List.getElem?_eq_getElem (by omega)
    have hp := q.2.2.2.1 bs[k] (List.getElem_mem _)
    have r2 := q.2.1 k _ hy
    have pw : ∀ i y, i < k → bs[i]? = some y → y < bs[k] := by
      intro i y hik e
      have hil : i < bs.length := by omega
      have := List.pairwise_iff_getElem.mp q.2.2.2.2 i k hil (by omega) hik
      rw [List.getElem?_eq_getElem hil] at e
      have e' : bs[i] = y := by simpa using e
      rw [← e']; exact this
    unfold fX7_addBreak_b6
    rw [if_neg hn0]
    simp only [lt_def, two32, one32, i32_mul, i32_sub, q.1.k220, q.1.r32, q.1.k243, q.1.l243, if_pos x1, if_pos x2, e1, e2, r2.1, r2.2, reduceIte]
    rw [m_lieR h h1 h2 hp hx, bd_some]
    by_cases c1 : bs[k] ≤ x
    · rw [if_pos ((si_le _).mpr (sr_le.mpr c1))]
      unfold fX7_addBreak_b47
      rw [if_neg hn0]
      simp only [two32, one32, i32_mul, i32_sub, q.1.k220, q.1.r32, q.1.k243, q.1.l243, if_pos x1, if_pos x2, e1, e2, r2.1, r2.2, reduceIte]
      rw [m_lieR h h1 h2 hp hx, bd_some]
      by_cases c2 : bs[k] = x
      · rw [if_pos ((si_eq _).mpr (sr_eq.mpr c2))]
        refine ⟨h, bs, rfl, q, fun y => ⟨Or.inr, fun z => z.elim (fun e => ?_) id⟩, by omega, Fr.rf h⟩
        rw [e, ← c2]; exact List.getElem_mem _
      · rw [if_neg (fun z => c2 (sr_eq.mp ((si_eq _).mp z)))]
        refine m_b83 q hs hx hk (fun i y hik e => ?_) hi
        by_cases c3 : i = k
        · rw [c3, hy] at e
          have e' : bs[k] = y := by simpa using e
          rw [← e']; grind
        · have := pw i y (by omega) e
          grind
    · rw [if_neg (fun z => c1 (sr_le.mp ((si_le _).mp z)))]
      have e3 : i32 ((k + 1 : Nat) : Int) + -i32 1 = i32 (k : Int) := by
        rw [i32_neg, i32_add]; congr 1; omega
      rw [e3]
      refine ih m (by omega) (by omega) (fun i y hki e => ?_)
      by_cases c3 : i = k
      · rw [c3, hy] at e
        have e' : bs[k] = y := by simpa using e
        rw [← e']; grind
      · exact hi i y (by omega) e
theorem m_addBreak {NP NQ : Int} (h1 : NP ≤ 4611686018427387904) (h2 : NQ ≤ 4611686018427387904) {h : xH} {bs : List Rat} (q : Bk NP NQ h bs) (hs : bs.length < 4000) {x : Rat} (hx : Pt NP NQ x) : ∃ h' bs', fX7_addBreak 220 (i64 x.num) (i64 x.den) h = some ((), h') ∧ Bk NP NQ h' bs' ∧ (∀ y, y ∈ bs' ↔ y = x ∨ y ∈ bs) ∧ bs'.length ≤ bs.length + 1 ∧ Fr AB h h' := by
  unfold fX7_addBreak
  rw [if_pos q.1.k220, lt_def, q.2.2.1]
  refine m_ab6 h1 h2 q hs hx bs.length FU (by rw [FU_eq]; omega) (Nat.le_refl _) (fun i y hi e => ?_)
  have := (List.getElem?_eq_some_iff.mp e).1
  omega
section LB
variable {NP NQ : Int} {L : Nat → Ln} {n : Nat} {ps : List Pie} {P : Rat → Prop}
theorem AB_ln (r k : Nat) (h1 : 235 ≤ r) (h2 : r < 240) : ¬ AB r k := by unfold AB; omega
theorem m_lb69 (h1 : NP ≤ 4611686018427387904) (h2 : NQ ≤ 4611686018427387904) (hn : n ≤ 700) (bF : ∀ k, k < n → B32 (lnF (L k)) ∧ B32 (lnT (L k)) ∧ Pt NP NQ (lnF (L k))) (hP2 : ∀ i, i < n → lnF (L i) = lnT (L i) → P (lnF (L i))) : ∀ (d k m : Nat) (h : xH) (bs : List Rat), k + d = n → d < m → Bk NP NQ h bs → bs.length + d ≤ 4000 → Lns h L n → hI h 220 19 = i32 n → ∃ h' bs', fX7_layBreaks_l69 m 220 (i32 k) h = some ((), h') ∧ Bk NP NQ h' bs' ∧ bs'.length ≤ 4000 ∧ (∀ y ∈ bs, y ∈ bs') ∧ (∀ y ∈ bs', y ∈ bs ∨ P y) ∧ (∀ i, k ≤ i → i < n → lnF (L i) = lnT (L i) → (lnF (L i) : Rat) ∈ bs') ∧ Fr AB h h' := by
  intro d
  induction d with
  | zero =>
    intro k m h bs hk hm q hs w c
    obtain ⟨m, rfl⟩ : ∃ k, m = k + 1 := ⟨m - 1, by omega⟩
    refine ⟨h, bs, ?_, q, by omega, fun y hy => hy, fun y hy => Or.inl hy, fun i a b => by omega, Fr.rf h⟩
    show fX7_layBreaks_b69 _ _ _ _ = _
    unfold fX7_layBreaks_b69
    rw [if_pos q.1.k220, c, if_pos ((i32_le ⟨by omega, by omega⟩ ⟨by omega, by omega⟩).mpr (by omega))]
  | succ d ih =>
    intro k m h bs hk hm q hs w c
    obtain ⟨m, rfl⟩ : ∃ k, m = k + 1 := ⟨m - 1, by omega⟩
    show ∃ h' bs', fX7_layBreaks_b69 _ _ _ _ = _ ∧ _
    unfold fX7_layBreaks_b69
    have e1 := nat_i k (by omega)
    have x1 : ix (i32 k) 700 := ix_i (by omega) (by omega) (by decide)
    have wk := w k (by omega)
    have bk := bF k (by omega)
    rw [if_pos q.1.k220, c, if_neg (fun z => by have := (i32_le ⟨by omega, by omega⟩ ⟨by omega, by omega⟩).mp z; omega)]
    simp only [q.1.r20, q.1.r21, q.1.k235, q.1.k236, q.1.l235, q.1.l236, if_pos x1, e1, wk.1, wk.2.1, i64_of32 bk.1, reduceIte]
    unfold fX7_layBreaks_b104
    by_cases c1 : lnF (L k) = lnT (L k)
    · rw [if_pos ((i32_eq bk.1 bk.2.1).mpr c1)]
      obtain ⟨g, bs1, G, Q1, M1, N1, F1⟩ := m_addBreak h1 h2 q (by omega) bk.2.2
      rw [Rat.num_intCast, int_den] at G
      obtain ⟨g2, bs2, G2, Q2, Z2, M2, U2, N2, F2⟩ := ih (k + 1) m g bs1 (by omega) (by omega) Q1 (by omega) (w.fr F1 AB_ln) (by rw [(F1.2.2 220 19 (by unfold AB; omega)).1]; exact c)
      refine ⟨g2, bs2, ?_, Q2, Z2, fun y hy => M2 y ((M1 y).mpr (Or.inr hy)), fun y hy => (U2 y hy).elim (fun z => ((M1 y).mp z).elim (fun z => Or.inr (by rw [z]; exact hP2 k (by omega) c1)) Or.inl) Or.inr, fun i a b e => ?_, F1.tr F2⟩
      · rw [G, bd_some, lt_def, one32, i32_add]; exact G2
      · by_cases c2 : i = k
        · rw [c2]; exact M2 _ ((M1 _).mpr (Or.inl rfl))
        · exact N2 i (by omega) b e
    · rw [if_neg (fun z => c1 ((i32_eq bk.1 bk.2.1).mp z))]
      obtain ⟨g2, bs2, G2, Q2, Z2, M2, U2, N2, F2⟩ := ih (k + 1) m h bs (by omega) (by omega) q (by omega) w c
      refine ⟨g2, bs2, ?_, Q2, Z2, M2, U2, fun i a b e => ?_, F2⟩
      · rw [lt_def, one32, i32_add]; exact G2
      · by_cases c2 : i = k
        · rw [c2] at e; exact absurd e c1
        · exact N2 i (by omega) b e
theorem m_lb7 (h1 : NP ≤ 4611686018427387904) (h2 : NQ ≤ 4611686018427387904) (hn : n ≤ 700) (bF : ∀ k, k < n → B32 (lnF (L k)) ∧ B32 (lnT (L k)) ∧ Pt NP NQ (lnF (L k))) (hP2 : ∀ i, i < n → lnF (L i) = lnT (L i) → P (lnF (L i))) (hP1 : ∀ q ∈ ps, P q.1 ∧ P q.2.1) (pb : PB NP NQ ps) (hps : 2 * ps.length + n ≤ 4000) : ∀ (d k m : Nat) (h : xH) (bs : List Rat), k + d = ps.length → d < m → Bk NP NQ h bs → bs.length + 2 * d + n ≤ 4000 → Lns h L n → hI h 220 19 = i32 n → Row5 h 241 ps.reverse → hI h 220 27 = i32 ps.length → ∃ h' bs', fX7_layBreaks_l7 m 220 (i32 k) h = some ((), h') ∧ Bk NP NQ h' bs' ∧ bs'.length ≤ 4000 ∧ (∀ y ∈ bs, y ∈ bs') ∧ (∀ y ∈ bs', y ∈ bs ∨ P y) ∧ (∀ i q, k ≤ i → ps[i]? = some q → q.1 ∈ bs' ∧ q.2.1 ∈ bs') ∧ (∀ i, i < n → lnF (L i) = lnT (L i) → (lnF (L i) : Rat) ∈ bs') ∧ Fr AB h h' := by
  intro d
  induction d with
  | zero =>
    intro k m h bs hk hm q hs w c R c2
    obtain ⟨m, rfl⟩ : ∃ k, m = k + 1 := ⟨m - 1, by omega⟩
    show ∃ h' bs', fX7_layBreaks_b7 _ _ _ _ = _ ∧ _
    unfold fX7_layBreaks_b7
    rw [if_pos q.1.k220, c2, if_pos ((i32_le ⟨by omega, by omega⟩ ⟨by omega, by omega⟩).mpr (by omega)), lt_def]
    obtain ⟨g2, bs2, G2, Q2, Z2, M2, U2, N2, F2⟩ := m_lb69 h1 h2 hn bF hP2 n 0 FU h bs (by omega) (by rw [FU_eq]; omega) q (by omega) w c
    refine ⟨g2, bs2, G2, Q2, Z2, M2, U2, fun i p a e => ?_, fun i a e => N2 i (by omega) a e, F2⟩
    have := (List.getElem?_eq_some_iff.mp e).1
    omega
  | succ d ih =>
    intro k m h bs hk hm q hs w c R c2
    obtain ⟨m, rfl⟩ : ∃ k, m = k + 1 := ⟨m - 1, by omega⟩
    show ∃ h' bs', fX7_layBreaks_b7 _ _ _ _ = _ ∧ _
    have hkl : k < ps.length := by omega
    have hg : ps[k]? = some ps[k] := List.getElem?_eq_getElem hkl
    have hpb := pb ps[k] (List.getElem_mem _)
    have r5 := Row5_get R (by rw [List.reverse_reverse]; exact hg)
    have e0 : (i32 (5 * (k : Int))).toNatClampNeg = 5 * k := by rw [i32_nat (by omega) (by omega)]; omega
    have e1 : (i32 (5 * (k : Int) + 1)).toNatClampNeg = 5 * k + 1 := by rw [i32_nat (by omega) (by omega)]; omega
    have e2 : (i32 (5 * (k : Int) + 2)).toNatClampNeg = 5 * k + 2 := by rw [i32_nat (by omega) (by omega)]; omega
    have e3 : (i32 (5 * (k : Int) + 3)).toNatClampNeg = 5 * k + 3 := by rw [i32_nat (by omega) (by omega)]; omega
    have x0 : ix (i32 (5 * (k : Int))) 16000 := ix_i (by omega) (by omega) (by decide)
    have x1 : ix (i32 (5 * (k : Int) + 1)) 16000 := ix_i (by omega) (by omega) (by decide)
    have x2 : ix (i32 (5 * (k : Int) + 2)) 16000 := ix_i (by omega) (by omega) (by decide)
    have x3 : ix (i32 (5 * (k : Int) + 3)) 16000 := ix_i (by omega) (by omega) (by decide)
    obtain ⟨g, bs1, G1, Q1, M1, N1, F1⟩ := m_addBreak h1 h2 q (by omega) hpb.1
    obtain ⟨g2, bs2, G2, Q2, M2, N2, F2⟩ := m_addBreak h1 h2 Q1 (by omega) hpb.2.1
    have F12 := F1.tr F2
    obtain ⟨g3, bs3, G3, Q3, Z3, M3, U3, N3, N4, F3⟩ := ih (k + 1) m g2 bs2 (by omega) (by omega) Q2 (by omega) (w.fr F12 AB_ln) (by rw [(F12.2.2 220 19 (by unfold AB; omega)).1]; exact c) (Row5_cg (fun j _ => (F12.2.2 241 j (by unfold AB; omega)).2) R) (by rw [(F12.2.2 220 27 (by unfold AB; omega)).1]; exact c2)
    refine ⟨g3, bs3, ?_, Q3, Z3, fun y hy => M3 y ((M2 y).mpr (Or.inr ((M1 y).mpr (Or.inr hy)))), fun y hy => (U3 y hy).elim (fun z => ((M2 y).mp z).elim (fun z => Or.inr (by rw [z]; exact (hP1 _ (List.getElem_mem hkl)).2)) (fun z => ((M1 y).mp z).elim (fun z => Or.inr (by rw [z]; exact (hP1 _ (List.getElem_mem hkl)).1)) Or.inl)) Or.inr, fun i p a e => ?_, N4, F12.tr F3⟩
    · unfold fX7_layBreaks_b7
      have j2 : hJ g 241 (5 * k + 2) = i64 ps[k].2.1.num := by rw [(F1.2.2 241 _ (by unfold AB; omega)).2]; exact r5.2.2.1
      have j3 : hJ g 241 (5 * k + 3) = i64 ps[k].2.1.den := by rw [(F1.2.2 241 _ (by unfold AB; omega)).2]; exact r5.2.2.2.1
      rw [if_pos q.1.k220, c2, if_neg (fun z => by have := (i32_le ⟨by omega, by omega⟩ ⟨by omega, by omega⟩).mp z; omega)]
      simp only [lt_def, q.1.r28, q.1.k241, q.1.l241, Q1.1.r28, Q1.1.k241, Q1.1.l241, fiv32, i32_mul, one32, two32, thr32, i32_add, if_pos x0, if_pos x1, e0, e1, r5.1, r5.2.1, G1, bd_some, if_pos x2, if_pos x3, e2, e3, j2, j3, G2, reduceIte]
      exact G3
    · by_cases c3 : i = k
      · rw [c3, hg] at e
        have e' : ps[k] = p := by simpa using e
        rw [← e']
        exact ⟨M3 _ ((M2 _).mpr (Or.inr ((M1 _).mpr (Or.inl rfl)))), M3 _ ((M2 _).mpr (Or.inl rfl))⟩
      · exact N3 i p (by omega) e
theorem m_layBreaks (h1 : NP ≤ 4611686018427387904) (h2 : NQ ≤ 4611686018427387904) {h : xH} (mo : Mo h) (hn : n ≤ 700) (bF : ∀ k, k < n → B32 (lnF (L k)) ∧ B32 (lnT (L k)) ∧ Pt NP NQ (lnF (L k))) (hP2 : ∀ i, i < n → lnF (L i) = lnT (L i) → P (lnF (L i))) (hP1 : ∀ q ∈ ps, P q.1 ∧ P q.2.1) (pb : PB NP NQ ps) (hps : 2 * ps.length + n ≤ 4000) (w : Lns h L n) (c : hI h 220 19 = i32 n) (R : Row5 h 241 ps.reverse) (c2 : hI h 220 27 = i32 ps.length) : ∃ h' bs, fX7_layBreaks 220 h = some ((), h') ∧ Bk NP NQ h' bs ∧ bs.length ≤ 4000 ∧ (∀ y ∈ bs, P y) ∧ (∀ q ∈ ps, q.1 ∈ bs ∧ q.2.1 ∈ bs) ∧ (∀ i, i < n → lnF (L i) = lnT (L i) → (lnF (L i) : Rat) ∈ bs) ∧ Fr AB h h' := by
  have f : Fr AB h (sI h 220 31 0) := Fr.I _ (Or.inr ⟨rfl, rfl⟩)
  obtain ⟨g, bs, G, Q1, Z1, M1, U1, N1, N2, F1⟩ := m_lb7 (L := L) h1 h2 hn bF hP2 hP1 pb hps ps.length 0 FU (sI h 220 31 0) [] (by omega) (by rw [FU_eq]; omega) ⟨f.mo mo, (fun i y e => by simp at e), by rw [hI_sI, if_pos ⟨rfl, rfl⟩]; rfl, (fun y hy => by cases hy), List.Pairwise.nil⟩ (by simp; omega) (w.fr f AB_ln) (by rw [(f.2.2 220 19 (by unfold AB; omega)).1]; exact c) (Row5_cg (fun j _ => by rw [hJ_sI]) R) (by rw [(f.2.2 220 27 (by unfold AB; omega)).1]; exact c2)
  refine ⟨g, bs, ?_, Q1, Z1, fun y hy => (U1 y hy).elim (fun z => by cases z) id, fun q hq => ?_, N2, f.tr F1⟩
  · unfold fX7_layBreaks
    rw [if_pos mo.k220, lt_def, lt_def]
    exact G
  · obtain ⟨i, hi⟩ := List.getElem?_of_mem hq
    exact N1 i q (by omega) hi
end LB
