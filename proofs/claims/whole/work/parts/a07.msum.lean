/-! CALLS: sum, the reference, the call -/
section SB
variable {h : xH} {S : Ast} {fs gs : List Ln}
theorem m_sum1 {ll : List Ln} {k j : Nat} {f g : Ln} (q : Mo h) (w : Lnl h ((fs ++ gs) ++ ll)) (hl : fs.length + gs.length + ll.length < 700) (hk : fs[k]? = some f) (hj : gs[j]? = some g) (hf : LnB f) (hg : LnB g) (r55 : Nat → Int32 → Int32 → Int32 → xH → Option (Int32 × xH)) (r64 : Nat → Int32 → Int32 → Int32 → Int32 → xH → Option (Int32 × xH)) : ∃ h', fX7_sum_b64 r55 r64 220 (i32 (fs.length : Int)) (i32 ((fs.length + gs.length : Nat) : Int)) (i32 (k : Int)) (i32 ((fs.length + j : Nat) : Int)) h = r64 220 (i32 (fs.length : Int)) (i32 ((fs.length + gs.length : Nat) : Int)) (i32 (k : Int)) (i32 ((fs.length + (j + 1) : Nat) : Int)) h' ∧ Lnl h' ((fs ++ gs) ++ (ll ++ (suL f g).toList)) ∧ Fr AI h h' := by
  have hkl : k < fs.length := (List.getElem?_eq_some_iff.mp hk).1
  have hjl : j < gs.length := (List.getElem?_eq_some_iff.mp hj).1
  have v := w.2 k f (by rw [List.getElem?_append_left (by rw [List.length_append]; omega), List.getElem?_append_left hkl]; exact hk)
  have u := w.2 (fs.length + j) g (by rw [List.getElem?_append_left (by rw [List.length_append]; omega), List.getElem?_append_right (by omega), show fs.length + j - fs.length = j by omega]; exact hj)
  obtain ⟨⟨p1, p2, p3, p4⟩, f1, f2, f3⟩ := hf
  obtain ⟨⟨q1, q2, q3, q4⟩, g1, g2, g3⟩ := hg
  have x1 : ix (i32 (k : Int)) 700 := ix_i (by omega) (by omega) (by decide)
  have y1 : ix (i32 ((fs.length + j : Nat) : Int)) 700 := ix_i (by omega) (by omega) (by decide)
  have n1 := nat_i k (by omega)
  have n2 := nat_i (fs.length + j) (by omega)
  have m1 := (mx_b f1 g1).1
  have m2 := (mx_b f2 g2).2
  have s1 : (if i32 (lnF f) ≤ i32 (lnF g) then fX7_sum_b105 r55 r64 (i32 (lnF g)) 220 (i32 (fs.length : Int)) (i32 ((fs.length + gs.length : Nat) : Int)) (i32 (k : Int)) (i32 ((fs.length + j : Nat) : Int)) h else fX7_sum_b105 r55 r64 (i32 (lnF f)) 220 (i32 (fs.length : Int)) (i32 ((fs.length + gs.length : Nat) : Int)) (i32 (k : Int)) (i32 ((fs.length + j : Nat) : Int)) h) = fX7_sum_b105 r55 r64 (i32 (mxI (lnF f) (lnF g))) 220 (i32 (fs.length : Int)) (i32 ((fs.length + gs.length : Nat) : Int)) (i32 (k : Int)) (i32 ((fs.length + j : Nat) : Int)) h := by
    unfold mxI
    by_cases c : lnF f ≤ lnF g
    · rw [if_pos ((i32_le ⟨by omega, by omega⟩ ⟨by omega, by omega⟩).mpr c)]
      by_cases c2 : lnF f < lnF g
      · rw [if_pos c2]
      · rw [if_neg c2, show lnF f = lnF g by omega]
    · rw [if_neg (fun z => c ((i32_le ⟨by omega, by omega⟩ ⟨by omega, by omega⟩).mp z)), if_neg (by omega)]
  have s2 : ∀ s : Int32, (if i32 (lnT g) ≤ i32 (lnT f) then fX7_sum_b141 r55 r64 (i32 (lnT g)) 220 (i32 (fs.length : Int)) (i32 ((fs.length + gs.length : Nat) : Int)) (i32 (k : Int)) (i32 ((fs.length + j : Nat) : Int)) s h else fX7_sum_b141 r55 r64 (i32 (lnT f)) 220 (i32 (fs.length : Int)) (i32 ((fs.length + gs.length : Nat) : Int)) (i32 (k : Int)) (i32 ((fs.length + j : Nat) : Int)) s h) = fX7_sum_b141 r55 r64 (i32 (mnI (lnT f) (lnT g))) 220 (i32 (fs.length : Int)) (i32 ((fs.length + gs.length : Nat) : Int)) (i32 (k : Int)) (i32 ((fs.length + j : Nat) : Int)) s h := by
    intro s
    unfold mnI
    by_cases c : lnT g ≤ lnT f
    · rw [if_pos ((i32_le ⟨by omega, by omega⟩ ⟨by omega, by omega⟩).mpr c)]
      by_cases c2 : lnT g < lnT f
      · rw [if_pos c2]
      · rw [if_neg c2, show lnT f = lnT g by omega]
    · rw [if_neg (fun z => c ((i32_le ⟨by omega, by omega⟩ ⟨by omega, by omega⟩).mp z)), if_neg (by omega)]
  unfold fX7_sum_b64
  rw [if_neg (fun z => by have := (i32_le ⟨by omega, by omega⟩ ⟨by omega, by omega⟩).mp z; omega), if_pos q.k220, q.r20, if_pos q.k235, q.l235, if_pos x1, if_pos y1]
  simp only [n1, n2]
  rw [v.1, u.1, s1]
  unfold fX7_sum_b105
  rw [if_pos q.k220, q.r21, if_pos q.k236, q.l236, if_pos x1, if_pos y1]
  simp only [n1, n2]
  rw [v.2.1, u.2.1, s2]
  unfold fX7_sum_b141 fX7_sum_b235
  have ej : ((fs.length + j : Nat) : Int) + 1 = ((fs.length + (j + 1) : Nat) : Int) := by omega
  by_cases c : mxI (lnF f) (lnF g) ≤ mnI (lnT f) (lnT g)
  · have ec : suL f g = some (mxI (lnF f) (lnF g), mnI (lnT f) (lnT g), lnA f * lnC g + lnA g * lnC f, lnB f * lnC g + lnB g * lnC f, lnC f * lnC g) := if_pos c
    obtain ⟨h1, E1, A1, F1⟩ := m_lineL q w (by rw [List.length_append, List.length_append]; exact hl) (mxI (lnF f) (lnF g)) (mnI (lnT f) (lnT g)) (lnA f * lnC g + lnA g * lnC f) (lnB f * lnC g + lnB g * lnC f) (lnC f * lnC g)
    refine ⟨h1, ?_, ?_, F1⟩
    · rw [if_neg (fun z => by have := (i32_lt ⟨by omega, by omega⟩ ⟨by omega, by omega⟩).mp z; omega), if_pos q.k220, q.r22, if_pos q.k237, q.l237, if_pos x1, q.r24, if_pos q.k239, q.l239, if_pos y1, if_pos y1, if_pos x1, q.r23, if_pos q.k238, q.l238, if_pos x1, if_pos y1]
      simp only [n1, n2]
      rw [v.2.2.1, v.2.2.2.1, v.2.2.2.2, u.2.2.1, u.2.2.2.1, u.2.2.2.2]
      simp only [i64_mul, i64_add]
      rw [E1, bd_some, lt_def, one32, i32_add, ej]
    · rw [ec]
      rw [List.append_assoc (fs ++ gs)] at A1
      exact A1
  · have ec : suL f g = none := if_neg c
    refine ⟨h, ?_, ?_, Fr.rf h⟩
    · rw [if_pos ((i32_lt ⟨by omega, by omega⟩ ⟨by omega, by omega⟩).mpr (by omega)), lt_def, one32, i32_add, ej]
    · rw [ec]
      show Lnl h ((fs ++ gs) ++ (ll ++ []))
      rw [List.append_nil]; exact w
theorem m_su2 {k : Nat} {f : Ln} (hsf : fs.length ≤ 12) (hs : gs.length ≤ 12) (hb : ∀ l ∈ gs, LnB l) (hk : fs[k]? = some f) (hf : LnB f) (r55 : Nat → Int32 → Int32 → Int32 → xH → Option (Int32 × xH)) : ∀ (d j m : Nat) (h : xH) (ll : List Ln), j + d = gs.length → d < m → Mo h → Lnl h ((fs ++ gs) ++ ll) → 24 + ll.length + d ≤ 700 → ∃ h', fX7_sum_l64 r55 m 220 (i32 (fs.length : Int)) (i32 ((fs.length + gs.length : Nat) : Int)) (i32 (k : Int)) (i32 ((fs.length + j : Nat) : Int)) h = r55 220 (i32 (fs.length : Int)) (i32 ((fs.length + gs.length : Nat) : Int)) (i32 ((k + 1 : Nat) : Int)) h' ∧ Lnl h' ((fs ++ gs) ++ (ll ++ (gs.drop j).filterMap (suL f))) ∧ Fr AI h h' := by
  have hkl : k < fs.length := (List.getElem?_eq_some_iff.mp hk).1
  intro d
  induction d with
  | zero =>
    intro j m h ll hj hm q w hl
    obtain ⟨m, rfl⟩ : ∃ k, m = k + 1 := ⟨m - 1, by omega⟩
    refine ⟨h, ?_, by rw [List.drop_eq_nil_of_le (by omega)]; simpa using w, Fr.rf h⟩
    show fX7_sum_b64 _ _ 220 _ _ _ _ h = _
    unfold fX7_sum_b64
    rw [if_pos ((i32_le ⟨by omega, by omega⟩ ⟨by omega, by omega⟩).mpr (by omega)), lt_def, one32, i32_add, kp1]
  | succ d ih =>
    intro j m h ll hj hm q w hl
    obtain ⟨m, rfl⟩ : ∃ k, m = k + 1 := ⟨m - 1, by omega⟩
    have hjl : j < gs.length := by omega
    have hg : gs[j]? = some gs[j] := List.getElem?_eq_getElem hjl
    obtain ⟨h1, E1, w1, F1⟩ := m_sum1 (k := k) (j := j) q w (by omega) hk hg hf (hb _ (List.getElem_mem _)) r55 (fX7_sum_l64 r55 m)
    obtain ⟨h2, E2, w2, F2⟩ := ih (j + 1) m h1 _ (by omega) (by omega) (F1.mo q) w1 (by
      rw [List.length_append]
      have := tl1 (suL f gs[j])
      omega)
    refine ⟨h2, ?_, ?_, F1.tr F2⟩
    · show fX7_sum_b64 _ _ 220 _ _ _ _ h = _
      rw [E1]; exact E2
    · rw [List.drop_eq_getElem_cons hjl, fmC]
      rw [List.append_assoc ll] at w2
      exact w2
theorem m_su1 (hsf : fs.length ≤ 12) (hbf : ∀ l ∈ fs, LnB l) (hs : gs.length ≤ 12) (hb : ∀ l ∈ gs, LnB l) : ∀ (d k m : Nat) (h : xH) (ll : List Ln), k + d = fs.length → d < m → Mo h → Lnl h ((fs ++ gs) ++ ll) → 24 + ll.length + 12 * d ≤ 700 → ∃ h', fX7_sum_l55 m 220 (i32 (fs.length : Int)) (i32 ((fs.length + gs.length : Nat) : Int)) (i32 (k : Int)) h = bd (fX7_forget 220 (i32 ((fs.length + gs.length : Nat) : Int)) h') (fun _ g2 => bd (fX7_onto 220 3 g2) (fun w7 g5 => some (w7, g5))) ∧ Lnl h' ((fs ++ gs) ++ (ll ++ suM (fs.drop k) gs)) ∧ Fr AI h h' := by
  intro d
  induction d with
  | zero =>
    intro k m h ll hk hm q w hl
    obtain ⟨m, rfl⟩ : ∃ k, m = k + 1 := ⟨m - 1, by omega⟩
    refine ⟨h, ?_, by rw [List.drop_eq_nil_of_le (by omega)]; simpa [suM] using w, Fr.rf h⟩
    show fX7_sum_b55 _ 220 _ _ _ h = _
    unfold fX7_sum_b55
    rw [if_pos ((i32_le ⟨by omega, by omega⟩ ⟨by omega, by omega⟩).mpr (by omega)), if_pos q.k220]
  | succ d ih =>
    intro k m h ll hk hm q w hl
    obtain ⟨m, rfl⟩ : ∃ k, m = k + 1 := ⟨m - 1, by omega⟩
    have hkl : k < fs.length := by omega
    have hg : fs[k]? = some fs[k] := List.getElem?_eq_getElem hkl
    obtain ⟨h1, E1, w1, F1⟩ := m_su2 (k := k) hsf hs hb hg (hbf _ (List.getElem_mem _)) (fX7_sum_l55 m) gs.length 0 FU h ll (by omega) (by rw [FU_eq]; omega) q w (by omega)
    rw [List.drop_zero] at w1
    obtain ⟨h2, E2, w2, F2⟩ := ih (k + 1) m h1 _ (by omega) (by omega) (F1.mo q) w1 (by
      rw [List.length_append]
      have := List.length_filterMap_le (suL fs[k]) gs
      omega)
    refine ⟨h2, ?_, ?_, F1.tr F2⟩
    · show fX7_sum_b55 _ 220 _ _ _ h = _
      have E1' : fX7_sum_l64 (fX7_sum_l55 m) FU 220 (i32 (fs.length : Int)) (i32 ((fs.length + gs.length : Nat) : Int)) (i32 (k : Int)) (i32 (fs.length : Int)) h = fX7_sum_l55 m 220 (i32 (fs.length : Int)) (i32 ((fs.length + gs.length : Nat) : Int)) (i32 ((k + 1 : Nat) : Int)) h1 := E1
      unfold fX7_sum_b55
      rw [if_neg (fun z => by have := (i32_le ⟨by omega, by omega⟩ ⟨by omega, by omega⟩).mp z; omega), E1']
      exact E2
    · unfold suM at w2 ⊢
      rw [List.drop_eq_getElem_cons hkl, List.flatMap_cons]
      rw [List.append_assoc ll] at w2
      exact w2
theorem Cal_sum (a b : Int32) : Cal (fX6_sum 2 a b) (fX7_sum 220 a b) := by
  obtain ⟨j, bi, rfl⟩ := i32_ex a
  obtain ⟨i, bj, rfl⟩ := i32_ex b
  intro h S K C M
  have co := C.co
  by_cases h3 : 0 ≤ j ∧ j ≤ 5
  · by_cases h4 : 0 ≤ i ∧ i ≤ 5
    · obtain ⟨n, rfl⟩ : ∃ n : Nat, j = n := ⟨j.toNat, by omega⟩
      obtain ⟨m, rfl⟩ : ∃ n : Nat, i = n := ⟨i.toNat, by omega⟩
      have hn : n < 6 := by omega
      have hm : m < 6 := by omega
      have Cn := K.1.1 n hn
      have Cm := K.1.1 m hm
      have s1 := can_ln Cn
      have s2 := can_ln Cm
      obtain ⟨g3, ks, E3, P3, C3, O3⟩ := c_sum_ok hn hm K C
      have M3 := M.out O3
      have f1 : Fr (fun r c => r = 220 ∧ (c = 0 ∨ c = 19)) g3 (sI (sI g3 220 0 0) 220 19 0) := (Fr.I _ ⟨rfl, Or.inl rfl⟩).tr (Fr.I _ ⟨rfl, Or.inr rfl⟩)
      have M4 := M3.sm K f1 (fun r c z => by omega)
      have w0 : Lnl (sI (sI g3 220 0 0) 220 19 0) [] := ⟨by rw [hI_sI, if_pos ⟨rfl, rfl⟩]; rfl, fun k l e => by rw [List.getElem?_nil] at e; cases e⟩
      obtain ⟨g5, E5, L5, F5⟩ := m_linesOf hn Cn.1 M4.1.1 (M4.1.2.1 n hn) w0 (by decide)
      rw [List.nil_append] at L5
      have M5 := M4.sm K F5 (fun r c z => by unfold AQ AE AI at z; omega)
      obtain ⟨g6, E6, L6, F6⟩ := m_linesOf hm Cm.1 M5.1.1 (M5.1.2.1 m hm) L5 (by have := s1.1; omega)
      have M6 := M5.sm K F6 (fun r c z => by unfold AQ AE AI at z; omega)
      have L6' : Lnl g6 (((spL (aC S n)).map lby ++ (spL (aC S m)).map lby) ++ []) := by rw [List.append_nil]; exact L6
      obtain ⟨g7, E7, L7, F7⟩ := m_su1 s1.1 s1.2 s2.1 s2.2 ((spL (aC S n)).map lby).length 0 FU g6 [] (by omega) (by rw [FU_eq]; have := s1.1; omega) M6.1.1 L6' (by have := s1.1; show 24 + 0 + 12 * ((spL (aC S n)).map lby).length ≤ 700; omega)
      rw [List.nil_append, List.drop_zero] at L7
      have M7 := M6.sm K F7 (fun r c z => by unfold AI at z; omega)
      obtain ⟨g8, E8, L8, F8⟩ := m_forget M7.1.1 L7 (by rw [List.length_append]; have := su_len s1.1 s2.1; have := s1.1; have := s2.1; omega)
      have M8 := M7.sm K F8 (fun r c z => by unfold AI at z; omega)
      have FF : Fr In220 g3 g8 := (((f1.mono (fun r c z => by unfold In220; omega)).tr (F5.mono (fun r c z => by unfold AQ AE AI at z; unfold In220; omega))).tr (F6.mono (fun r c z => by unfold AQ AE AI at z; unfold In220; omega))).tr ((F7.mono (fun r c z => by unfold AI at z; unfold In220; omega)).tr (F8.mono (fun r c z => by unfold AI at z; unfold In220; omega)))
      obtain ⟨g9, E9, K9, C9, M9⟩ := fin_ontoG (act := 3) (su_lok Cn Cm) (lok_pab (su_lok Cn Cm) (by decide) (by decide) P3) K P3 C3 FF M8 L8
      refine ⟨i32 (ks.length : Int), g3, g9, actA S 3 6 ks, E3, ?_, K9, C9, M9⟩
      have E9' : fX7_onto 220 3 g8 = some (i32 (ks.length : Int), g9) := E9
      rw [List.length_append] at E8
      have e6 : hI g6 220 19 = i32 ((((spL (aC S n)).map lby).length + ((spL (aC S m)).map lby).length : Nat) : Int) := by rw [L6.1, List.length_append]
      have E7' : fX7_sum_l55 FU 220 (i32 (((spL (aC S n)).map lby).length : Int)) (i32 ((((spL (aC S n)).map lby).length + ((spL (aC S m)).map lby).length : Nat) : Int)) 0 g6 = bd (fX7_forget 220 (i32 ((((spL (aC S n)).map lby).length + ((spL (aC S m)).map lby).length : Nat) : Int)) g7) (fun _ g2 => bd (fX7_onto 220 3 g2) (fun w7 g5 => some (w7, g5))) := E7
      unfold fX7_sum
      rw [if_pos M3.1.1.k220, lt_def, m_isStore bi, bd_some, decide_eq_true h3, if_neg bzt0, m_isStore bj, bd_some, decide_eq_true h4, if_neg bzt0, lt_def, E5, bd_some, lt_def, L5.1, E6, bd_some, lt_def, lt_def, e6, E7', E8, bd_some, E9', bd_some]
    · refine ref_cal K C M (a := -2) (by decide) ?_ (fun g q => ?_)
      · unfold fX6_sum fX6_sum_b14
        rw [c_isStore bi, bd_some, decide_eq_true h3, if_neg bzt0, c_isStore bj, bd_some, decide_eq_false h4, if_pos bz_f, if_pos co.k2, m2_32]
      · have q0 : Mo (sI g 220 0 0) := (Fr.I (A := fun r _ => r = 220) _ rfl).mo q
        unfold fX7_sum fX7_sum_b19
        rw [if_pos q.k220, lt_def, m_isStore bi, bd_some, decide_eq_true h3, if_neg bzt0, m_isStore bj, bd_some, decide_eq_false h4, if_pos bz_f, if_pos q0.k220, m2_32]
  · refine ref_cal K C M (a := -2) (by decide) ?_ (fun g q => ?_)
    · unfold fX6_sum fX6_sum_b14
      rw [c_isStore bi, bd_some, decide_eq_false h3, if_pos bz_f, if_pos co.k2, m2_32]
    · have q0 : Mo (sI g 220 0 0) := (Fr.I (A := fun r _ => r = 220) _ rfl).mo q
      unfold fX7_sum fX7_sum_b19
      rw [if_pos q.k220, lt_def, m_isStore bi, bd_some, decide_eq_false h3, if_pos bz_f, if_pos q0.k220, m2_32]
end SB
