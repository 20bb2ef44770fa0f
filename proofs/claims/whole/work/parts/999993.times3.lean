/-! CALLS: times, the call -/
section TK
theorem Cal_times (a b : Int32) : Cal (fX6_times 2 a b) (fX7_times 220 a b) := by
  obtain ⟨j, bj, rfl⟩ := i32_ex a
  obtain ⟨r, brr, rfl⟩ := i32_ex b
  intro h S K C M
  have co := C.co
  have B6r : B64 r := ⟨by have := brr.1; omega, by have := brr.2; omega⟩
  have l1 : (i32 r < (0 : Int32)) ↔ r < 0 := i32_lt (b := 0) brr ⟨by decide, by decide⟩
  have l2 : (i32 r ≤ (60 : Int32)) ↔ r ≤ 60 := i32_le (b := 60) brr ⟨by decide, by decide⟩
  have i60 : (60 : Int64) = i64 60 := rfl
  have min0 : ∀ g : xH, fX7_in (i64 r) (i64 0) (i64 60) g = some (bz (decide (0 ≤ r ∧ r ≤ 60)), g) := fun g => m_in (b := 0) (c := 60) B6r ⟨by decide, by decide⟩ ⟨by decide, by decide⟩ g
  by_cases hx : 0 ≤ r ∧ r ≤ 60
  · by_cases h3 : 0 ≤ j ∧ j ≤ 5
    · obtain ⟨n, rfl⟩ : ∃ n : Nat, j = n := ⟨j.toNat, by omega⟩
      have hn : n < 6 := by omega
      have Cn := K.1.1 n hn
      have s1 := can_sb Cn
      obtain ⟨g3, ks, E3, P3, C3, O3⟩ := c_times_ok (r := r) hn hx K C
      have M3 := M.out O3
      have f1 : Fr (fun r c => r = 220 ∧ c = 0) g3 (sI g3 220 0 0) := Fr.I _ ⟨rfl, rfl⟩
      have M4 := M3.sm K f1 (fun r c z => by omega)
      obtain ⟨g5, E5, N5, L5, F5⟩ := m_laySpans (a := 0) (Or.inl rfl) hn Cn.1.1 Cn.1.2.2 M4.1.1 (M4.1.2.1 n hn)
      have M5 := M4.sm K F5 (fun r c z => by unfold AE at z; omega)
      have f6 : Fr (fun r c => r = 220 ∧ c = 19) g5 (sI g5 220 19 0) := Fr.I _ ⟨rfl, rfl⟩
      have M6 := M5.sm K f6 (fun r c z => by omega)
      have w0 : Lnl (sI g5 220 19 0) [] := ⟨by rw [hI_sI, if_pos ⟨rfl, rfl⟩]; rfl, fun k l e => by rw [List.getElem?_nil] at e; cases e⟩
      obtain ⟨g7, E7, L7, F7⟩ := m_tml (r := r) s1.1 s1.2 hx (spL (aC S n)).length 0 FU (sI g5 220 19 0) [] (by omega) (by rw [FU_eq]; omega) M6.1.1 (N5.fr f6 (fun k z => by omega)) (by rw [(f6.2.2 220 26 (by omega)).1]; exact L5) w0 (by show 0 + (spL (aC S n)).length ≤ 700; omega)
      rw [List.nil_append, List.drop_zero] at L7
      have M7 := M6.sm K F7 (fun r c z => by unfold AI at z; omega)
      have FF : Fr In220 g3 g7 := ((f1.mono (fun r c z => by unfold In220; omega)).tr (F5.mono (fun r c z => by unfold AE at z; unfold In220; omega))).tr ((f6.mono (fun r c z => by unfold In220; omega)).tr (F7.mono (fun r c z => by unfold AI at z; unfold In220; omega)))
      obtain ⟨g8, E8, K8, C8, M8⟩ := fin_ontoG (act := 10) (tm_lok Cn hx) (lok_pab (tm_lok Cn hx) (by decide) (by decide) P3) K P3 C3 FF M7 L7
      refine ⟨i32 (ks.length : Int), g3, g8, actA S 10 6 ks, E3, ?_, K8, C8, M8⟩
      have E8' : fX7_onto 220 10 g7 = some (i32 (ks.length : Int), g8) := E8
      have E7' : fX7_times_l50 FU 220 (i32 r) 0 (sI g5 220 19 0) = bd (fX7_onto 220 10 g7) (fun w4 g2 => some (w4, g2)) := E7
      have E5' : fX7_laySpans 220 (i32 (n : Int)) 0 (sI g3 220 0 0) = some ((), g5) := E5
      unfold fX7_times
      rw [if_pos M3.1.1.k220, lt_def, i64_of32 brr, z64, i60, min0, bd_some, decide_eq_true hx, if_neg bzt0, m_isStore bj, bd_some, decide_eq_true h3, if_neg bzt0, E5', bd_some, lt_def, lt_def, E7', E8', bd_some]
    · refine ref_cal K C M (a := -2) (by decide) ?_ (fun g q => ?_)
      · unfold fX6_times
        rw [if_neg (fun z => by have := l1.mp z; omega), if_pos (l2.mpr hx.2), c_isStore bj, bd_some, decide_eq_false h3, if_pos bz_f, if_pos co.k2, m2_32]
      · unfold fX7_times
        rw [if_pos q.k220, lt_def, i64_of32 brr, z64, i60, min0, bd_some, decide_eq_true hx, if_neg bzt0, m_isStore bj, bd_some, decide_eq_false h3, if_pos bz_f, m2_32]
  · refine ref_cal K C M (a := -1) (by decide) ?_ (fun g q => ?_)
    · unfold fX6_times fX6_times_b10
      by_cases c0 : r < 0
      · rw [if_pos (l1.mpr c0), if_pos co.k2, m1_32]
      · rw [if_neg (fun z => c0 (l1.mp z)), if_neg (fun z => by have := l2.mp z; omega), if_pos co.k2, m1_32]
    · unfold fX7_times
      rw [if_pos q.k220, lt_def, i64_of32 brr, z64, i60, min0, bd_some, decide_eq_false hx, if_pos bz_f, m1_32]
end TK
