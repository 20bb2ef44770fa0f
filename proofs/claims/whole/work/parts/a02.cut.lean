/-! CALLS: cut, the reference, the call -/
section CU
variable {h : xH} {S : Ast} {lo hi : Int} {ls : List Ln}
theorem m_cut1 {ll : List Ln} {k : Nat} {l : Ln} (q : Mo h) (w : Lnl h (ls ++ ll)) (hl : ls.length + ll.length < 700) (hk : ls[k]? = some l) (hb : LnB l) (b1 : -5940 ≤ lo ∧ lo ≤ 5940) (b2 : -5940 ≤ hi ∧ hi ≤ 5940) (r65 : Nat → Int32 → Int32 → Int32 → Int32 → xH → Option (Int32 × xH)) : ∃ h', fX7_cut_b65 r65 220 (i32 lo) (i32 hi) (i32 (ls.length : Int)) (i32 (k : Int)) h = r65 220 (i32 lo) (i32 hi) (i32 (ls.length : Int)) (i32 ((k + 1 : Nat) : Int)) h' ∧ Lnl h' (ls ++ (ll ++ (cuL lo hi l).toList)) ∧ Fr AI h h' := by
  have hkl : k < ls.length := (List.getElem?_eq_some_iff.mp hk).1
  have v := w.2 k l (by rw [List.getElem?_append_left hkl]; exact hk)
  obtain ⟨b, f1, f2, f3⟩ := hb
  have x1 : ix (i32 (k : Int)) 700 := ix_i (by omega) (by omega) (by decide)
  have n1 := nat_i k (by omega)
  have m1 := (mx_b f1 (show -11880 ≤ lo ∧ lo ≤ 11880 by omega)).1
  have m2 := (mx_b f2 (show -11880 ≤ hi ∧ hi ≤ 11880 by omega)).2
  have s1 : (if i32 (lnF l) ≤ i32 lo then fX7_cut_b94 r65 (i32 lo) 220 (i32 lo) (i32 hi) (i32 (ls.length : Int)) (i32 (k : Int)) h else fX7_cut_b94 r65 (i32 (lnF l)) 220 (i32 lo) (i32 hi) (i32 (ls.length : Int)) (i32 (k : Int)) h) = fX7_cut_b94 r65 (i32 (mxI (lnF l) lo)) 220 (i32 lo) (i32 hi) (i32 (ls.length : Int)) (i32 (k : Int)) h := by
    unfold mxI
    by_cases c : lnF l ≤ lo
    · rw [if_pos ((i32_le ⟨by omega, by omega⟩ ⟨by omega, by omega⟩).mpr c)]
      by_cases c2 : lnF l < lo
      · rw [if_pos c2]
      · rw [if_neg c2, show lnF l = lo by omega]
    · rw [if_neg (fun z => c ((i32_le ⟨by omega, by omega⟩ ⟨by omega, by omega⟩).mp z)), if_neg (by omega)]
  have s2 : ∀ s : Int32, (if i32 hi ≤ i32 (lnT l) then fX7_cut_b118 r65 (i32 hi) 220 (i32 lo) (i32 hi) (i32 (ls.length : Int)) (i32 (k : Int)) s h else fX7_cut_b118 r65 (i32 (lnT l)) 220 (i32 lo) (i32 hi) (i32 (ls.length : Int)) (i32 (k : Int)) s h) = fX7_cut_b118 r65 (i32 (mnI (lnT l) hi)) 220 (i32 lo) (i32 hi) (i32 (ls.length : Int)) (i32 (k : Int)) s h := by
    intro s
    unfold mnI
    by_cases c : hi ≤ lnT l
    · rw [if_pos ((i32_le ⟨by omega, by omega⟩ ⟨by omega, by omega⟩).mpr c)]
      by_cases c2 : hi < lnT l
      · rw [if_pos c2]
      · rw [if_neg c2, show lnT l = hi by omega]
    · rw [if_neg (fun z => c ((i32_le ⟨by omega, by omega⟩ ⟨by omega, by omega⟩).mp z)), if_neg (by omega)]
  unfold fX7_cut_b65
  rw [if_neg (fun z => by have := (i32_le ⟨by omega, by omega⟩ ⟨by omega, by omega⟩).mp z; omega), if_pos q.k220, q.r20, if_pos q.k235, q.l235, if_pos x1]
  simp only [n1]
  rw [v.1, s1]
  unfold fX7_cut_b94
  rw [if_pos q.k220, q.r21, if_pos q.k236, q.l236, if_pos x1]
  simp only [n1]
  rw [v.2.1, s2]
  unfold fX7_cut_b118 fX7_cut_b156
  by_cases c : mxI (lnF l) lo ≤ mnI (lnT l) hi
  · have ec : cuL lo hi l = some (mxI (lnF l) lo, mnI (lnT l) hi, lnA l, lnB l, lnC l) := if_pos c
    obtain ⟨h1, E1, A1, F1⟩ := m_lineL q w (by rw [List.length_append]; exact hl) (mxI (lnF l) lo) (mnI (lnT l) hi) (lnA l) (lnB l) (lnC l)
    refine ⟨h1, ?_, ?_, F1⟩
    · rw [if_neg (fun z => by have := (i32_lt ⟨by omega, by omega⟩ ⟨by omega, by omega⟩).mp z; omega), if_pos q.k220, q.r22, if_pos q.k237, q.l237, if_pos x1, q.r23, if_pos q.k238, q.l238, if_pos x1, q.r24, if_pos q.k239, q.l239, if_pos x1]
      simp only [n1]
      rw [v.2.2.1, v.2.2.2.1, v.2.2.2.2, E1, bd_some, lt_def, one32, i32_add, kp1]
    · rw [ec]
      rw [List.append_assoc] at A1
      exact A1
  · have ec : cuL lo hi l = none := if_neg c
    refine ⟨h, ?_, ?_, Fr.rf h⟩
    · rw [if_pos ((i32_lt ⟨by omega, by omega⟩ ⟨by omega, by omega⟩).mpr (by omega)), lt_def, one32, i32_add, kp1]
    · rw [ec]
      show Lnl h (ls ++ (ll ++ []))
      rw [List.append_nil]; exact w
theorem m_cul (hs : ls.length ≤ 12) (hb : ∀ l ∈ ls, LnB l) (b1 : -5940 ≤ lo ∧ lo ≤ 5940) (b2 : -5940 ≤ hi ∧ hi ≤ 5940) : ∀ (d k m : Nat) (h : xH) (ll : List Ln), k + d = ls.length → d < m → Mo h → Lnl h (ls ++ ll) → ls.length + ll.length + d ≤ 700 → ∃ h', fX7_cut_l65 m 220 (i32 lo) (i32 hi) (i32 (ls.length : Int)) (i32 (k : Int)) h = bd (fX7_forget 220 (i32 (ls.length : Int)) h') (fun _ g2 => bd (fX7_onto 220 8 g2) (fun w7 g5 => some (w7, g5))) ∧ Lnl h' (ls ++ (ll ++ (ls.drop k).filterMap (cuL lo hi))) ∧ Fr AI h h' := by
  intro d
  induction d with
  | zero =>
    intro k m h ll hk hm q w hl
    obtain ⟨m, rfl⟩ : ∃ k, m = k + 1 := ⟨m - 1, by omega⟩
    refine ⟨h, ?_, by rw [List.drop_eq_nil_of_le (by omega)]; simpa using w, Fr.rf h⟩
    show fX7_cut_b65 _ 220 _ _ _ _ h = _
    unfold fX7_cut_b65
    rw [if_pos ((i32_le ⟨by omega, by omega⟩ ⟨by omega, by omega⟩).mpr (by omega)), if_pos q.k220]
  | succ d ih =>
    intro k m h ll hk hm q w hl
    obtain ⟨m, rfl⟩ : ∃ k, m = k + 1 := ⟨m - 1, by omega⟩
    have hkl : k < ls.length := by omega
    have hg : ls[k]? = some ls[k] := List.getElem?_eq_getElem hkl
    obtain ⟨h1, E1, w1, F1⟩ := m_cut1 q w (by omega) hg (hb _ (List.getElem_mem _)) b1 b2 (fX7_cut_l65 m)
    obtain ⟨h2, E2, w2, F2⟩ := ih (k + 1) m h1 _ (by omega) (by omega) (F1.mo q) w1 (by
      rw [List.length_append]
      have := tl1 (cuL lo hi ls[k])
      omega)
    refine ⟨h2, ?_, ?_, F1.tr F2⟩
    · show fX7_cut_b65 _ 220 _ _ _ _ h = _
      rw [E1]; exact E2
    · rw [List.drop_eq_getElem_cons hkl, fmC]
      rw [List.append_assoc ll] at w2
      exact w2
theorem Cal_cut (a b c : Int32) : Cal (fX6_cut 2 a b c) (fX7_cut 220 a b c) := by
  obtain ⟨j, bj, rfl⟩ := i32_ex a
  obtain ⟨lo, blo, rfl⟩ := i32_ex b
  obtain ⟨hi, bhi, rfl⟩ := i32_ex c
  intro h S K C M
  have co := C.co
  have B6x : B64 lo := ⟨by have := blo.1; omega, by have := blo.2; omega⟩
  have B6y : B64 hi := ⟨by have := bhi.1; omega, by have := bhi.2; omega⟩
  by_cases hx : -5940 ≤ lo ∧ lo ≤ 5940
  · by_cases hy : -5940 ≤ hi ∧ hi ≤ 5940
    · by_cases hxy : lo ≤ hi
      · have le1 : i32 lo ≤ i32 hi := (i32_le blo bhi).mpr hxy
        by_cases h3 : 0 ≤ j ∧ j ≤ 5
        · obtain ⟨n, rfl⟩ : ∃ n : Nat, j = n := ⟨j.toNat, by omega⟩
          have hn : n < 6 := by omega
          have Cn := K.1.1 n hn
          have s1 := can_ln Cn
          obtain ⟨g3, ks, E3, P3, C3, O3⟩ := c_cut_ok (lo := lo) (hi := hi) hn hx hy hxy K C
          have M3 := M.out O3
          have f1 : Fr (fun r c => r = 220 ∧ (c = 0 ∨ c = 19)) g3 (sI (sI g3 220 0 0) 220 19 0) := (Fr.I _ ⟨rfl, Or.inl rfl⟩).tr (Fr.I _ ⟨rfl, Or.inr rfl⟩)
          have M4 := M3.sm K f1 (fun r c z => by omega)
          have w0 : Lnl (sI (sI g3 220 0 0) 220 19 0) [] := ⟨by rw [hI_sI, if_pos ⟨rfl, rfl⟩]; rfl, fun k l e => by rw [List.getElem?_nil] at e; cases e⟩
          obtain ⟨g5, E5, L5, F5⟩ := m_linesOf hn Cn.1 M4.1.1 (M4.1.2.1 n hn) w0 (by decide)
          rw [List.nil_append] at L5
          have M5 := M4.sm K F5 (fun r c z => by unfold AQ AE AI at z; omega)
          have L5' : Lnl g5 ((spL (aC S n)).map lby ++ []) := by rw [List.append_nil]; exact L5
          obtain ⟨g6, E6, L6, F6⟩ := m_cul (lo := lo) (hi := hi) s1.1 s1.2 hx hy ((spL (aC S n)).map lby).length 0 FU g5 [] (by omega) (by rw [FU_eq]; have := s1.1; omega) M5.1.1 L5' (by have := s1.1; show ((spL (aC S n)).map lby).length + 0 + ((spL (aC S n)).map lby).length ≤ 700; omega)
          rw [List.nil_append, List.drop_zero] at L6
          have M6 := M5.sm K F6 (fun r c z => by unfold AI at z; omega)
          have fl := List.length_filterMap_le (cuL lo hi) ((spL (aC S n)).map lby)
          obtain ⟨g7, E7, L7, F7⟩ := m_forget M6.1.1 L6 (by have := s1.1; omega)
          have M7 := M6.sm K F7 (fun r c z => by unfold AI at z; omega)
          have FF : Fr In220 g3 g7 := ((f1.mono (fun r c z => by unfold In220; omega)).tr (F5.mono (fun r c z => by unfold AQ AE AI at z; unfold In220; omega))).tr ((F6.mono (fun r c z => by unfold AI at z; unfold In220; omega)).tr (F7.mono (fun r c z => by unfold AI at z; unfold In220; omega)))
          obtain ⟨g8, E8, K8, C8, M8⟩ := fin_ontoL (act := 8) (by have := s1.1; omega) (cu_b s1.2 hx hy) K P3 C3 FF M7 L7
          refine ⟨i32 (ks.length : Int), g3, g8, actA S 8 6 ks, E3, ?_, K8, C8, M8⟩
          have E8' : fX7_onto 220 8 g7 = some (i32 (ks.length : Int), g8) := E8
          have E6' : fX7_cut_l65 FU 220 (i32 lo) (i32 hi) (i32 (((spL (aC S n)).map lby).length : Int)) 0 g5 = bd (fX7_forget 220 (i32 (((spL (aC S n)).map lby).length : Int)) g6) (fun _ g2 => bd (fX7_onto 220 8 g2) (fun w7 g5 => some (w7, g5))) := E6
          unfold fX7_cut
          rw [if_pos M3.1.1.k220, lt_def, i64_of32 blo, m_isPlace B6x, bd_some, decide_eq_true hx, if_neg bzt0, i64_of32 bhi, m_isPlace B6y, bd_some, decide_eq_true hy, if_neg bzt0, if_pos le1, m_isStore bj, bd_some, decide_eq_true h3, if_neg bzt0, lt_def, E5, bd_some, lt_def, lt_def, L5.1, E6', E7, bd_some, E8', bd_some]
        · refine ref_cal K C M (a := -2) (by decide) ?_ (fun g q => ?_)
          · unfold fX6_cut
            rw [i64_of32 blo, c_isPlace B6x, bd_some, decide_eq_true hx, if_neg bzt0, i64_of32 bhi, c_isPlace B6y, bd_some, decide_eq_true hy, if_neg bzt0, if_pos le1, c_isStore bj, bd_some, decide_eq_false h3, if_pos bz_f, if_pos co.k2, m2_32]
          · unfold fX7_cut
            rw [if_pos q.k220, lt_def, i64_of32 blo, m_isPlace B6x, bd_some, decide_eq_true hx, if_neg bzt0, i64_of32 bhi, m_isPlace B6y, bd_some, decide_eq_true hy, if_neg bzt0, if_pos le1, m_isStore bj, bd_some, decide_eq_false h3, if_pos bz_f, m2_32]
      · have le1 : ¬ i32 lo ≤ i32 hi := fun z => hxy ((i32_le blo bhi).mp z)
        refine ref_cal K C M (a := -1) (by decide) ?_ (fun g q => ?_)
        · unfold fX6_cut fX6_cut_b21
          rw [i64_of32 blo, c_isPlace B6x, bd_some, decide_eq_true hx, if_neg bzt0, i64_of32 bhi, c_isPlace B6y, bd_some, decide_eq_true hy, if_neg bzt0, if_neg le1, if_pos co.k2, m1_32]
        · have q0 : Mo (sI g 220 0 0) := (Fr.I (A := fun r _ => r = 220) _ rfl).mo q
          unfold fX7_cut fX7_cut_b26
          rw [if_pos q.k220, lt_def, i64_of32 blo, m_isPlace B6x, bd_some, decide_eq_true hx, if_neg bzt0, i64_of32 bhi, m_isPlace B6y, bd_some, decide_eq_true hy, if_neg bzt0, if_neg le1, if_pos q0.k220, m1_32]
    · refine ref_cal K C M (a := -1) (by decide) ?_ (fun g q => ?_)
      · unfold fX6_cut fX6_cut_b21
        rw [i64_of32 blo, c_isPlace B6x, bd_some, decide_eq_true hx, if_neg bzt0, i64_of32 bhi, c_isPlace B6y, bd_some, decide_eq_false hy, if_pos bz_f, if_pos co.k2, m1_32]
      · have q0 : Mo (sI g 220 0 0) := (Fr.I (A := fun r _ => r = 220) _ rfl).mo q
        unfold fX7_cut fX7_cut_b26
        rw [if_pos q.k220, lt_def, i64_of32 blo, m_isPlace B6x, bd_some, decide_eq_true hx, if_neg bzt0, i64_of32 bhi, m_isPlace B6y, bd_some, decide_eq_false hy, if_pos bz_f, if_pos q0.k220, m1_32]
  · refine ref_cal K C M (a := -1) (by decide) ?_ (fun g q => ?_)
    · unfold fX6_cut fX6_cut_b21
      rw [i64_of32 blo, c_isPlace B6x, bd_some, decide_eq_false hx, if_pos bz_f, if_pos co.k2, m1_32]
    · have q0 : Mo (sI g 220 0 0) := (Fr.I (A := fun r _ => r = 220) _ rfl).mo q
      unfold fX7_cut fX7_cut_b26
      rw [if_pos q.k220, lt_def, i64_of32 blo, m_isPlace B6x, bd_some, decide_eq_false hx, if_pos bz_f, if_pos q0.k220, m1_32]
end CU
