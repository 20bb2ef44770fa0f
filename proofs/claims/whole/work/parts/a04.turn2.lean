/-! CALLS: turn, the call -/
section TW
variable {h : xH} {S : Ast}
theorem m4_32 : (-4 : Int32) = i32 (-4) := rfl
theorem canT_e (ks : List Kn) : canT ks = (al (pWay ks true) (ks.length - 1) 1 || al (pWay ks false) (ks.length - 1) 1) := rfl
theorem m_turn46 {n : Nat} {b : Bool} {g3 g4 : xH} {ks : List Kn} (hn : n < 6) (K : AOk S) (hw : al (pWay (aC S n) b) ((aC S n).length - 1) 1 = true) (P3 : PaperIs (lnn (((spL (aC S n)).map tuS).map lby)) (((spL (aC S n)).map tuS).map lby).length ks) (C3 : CSt g3 (actA S 6 6 ks)) (F4 : Fr In220 g3 g4) (M4 : MSt g4 S) : ∃ g8, fX7_turn_b46 220 (i32 (n : Int)) (bz b) g4 = some (i32 (ks.length : Int), g8) ∧ AOk (actA S 6 6 ks) ∧ CSt g8 (actA S 6 6 ks) ∧ MSt g8 (actA S 6 6 ks) := by
  have Cn := K.1.1 n hn
  have s1 := can_sb Cn
  obtain ⟨g5, E5, N5, L5, F5⟩ := m_laySpans (a := 0) (Or.inl rfl) hn Cn.1.1 Cn.1.2.2 M4.1.1 (M4.1.2.1 n hn)
  have M5 := M4.sm K F5 (fun r c z => by unfold AE at z; omega)
  have f6 : Fr (fun r c => r = 220 ∧ c = 19) g5 (sI g5 220 19 0) := Fr.I _ ⟨rfl, rfl⟩
  have M6 := M5.sm K f6 (fun r c z => by omega)
  have w0 : Lnl (sI g5 220 19 0) [] := ⟨by rw [hI_sI, if_pos ⟨rfl, rfl⟩]; rfl, fun k l e => by rw [List.getElem?_nil] at e; cases e⟩
  obtain ⟨g7, E7, L7, F7⟩ := m_tul s1.1 s1.2 (tu_way Cn hw) (spL (aC S n)).length 0 FU (sI g5 220 19 0) [] (by omega) (by rw [FU_eq]; omega) M6.1.1 (N5.fr f6 (fun k z => by omega)) (by rw [(f6.2.2 220 26 (by omega)).1]; exact L5) w0 (by show 0 + (spL (aC S n)).length ≤ 700; omega)
  rw [List.nil_append, List.drop_zero] at L7
  have M7 := M6.sm K F7 (fun r c z => by unfold AI at z; omega)
  have FF : Fr In220 g3 g7 := (F4.tr (F5.mono (fun r c z => by unfold AE at z; unfold In220; omega))).tr ((f6.mono (fun r c z => by unfold In220; omega)).tr (F7.mono (fun r c z => by unfold AI at z; unfold In220; omega)))
  obtain ⟨g8, E8, K8, C8, M8⟩ := fin_onto (act := 6) (by rw [List.length_map]; omega) (tu_sb Cn) K P3 C3 FF M7 L7
  refine ⟨g8, ?_, K8, C8, M8⟩
  have E8' : fX7_onto 220 6 g7 = some (i32 (ks.length : Int), g8) := E8
  have E7' : fX7_turn_l59 FU 220 (bz b) 0 (sI g5 220 19 0) = bd (fX7_onto 220 6 g7) (fun w4 g2 => some (w4, g2)) := E7
  have E5' : fX7_laySpans 220 (i32 (n : Int)) 0 g4 = some ((), g5) := E5
  unfold fX7_turn_b46
  rw [if_pos M4.1.1.k220, E5', bd_some, lt_def, lt_def, E7', E8', bd_some]
theorem Cal_turn (a : Int32) : Cal (fX6_turn 2 a) (fX7_turn 220 a) := by
  obtain ⟨j, bj, rfl⟩ := i32_ex a
  intro h S K C M
  have co := C.co
  by_cases h3 : 0 ≤ j ∧ j ≤ 5
  · obtain ⟨n, rfl⟩ : ∃ n : Nat, j = n := ⟨j.toNat, by omega⟩
    have hn : n < 6 := by omega
    have Cn := K.1.1 n hn
    have up : ∀ g : xH, MSt g S → fX7_isStrict 220 (i32 (n : Int)) 1 g = some (bz (al (pWay (aC S n) true) ((aC S n).length - 1) 1), g) := fun g Mg => m_isStrict Mg.1.1 hn Cn.1.1 (Mg.1.2.1 n hn) Cn.1.2.1 true
    have dn : ∀ g : xH, MSt g S → fX7_isStrict 220 (i32 (n : Int)) (-1) g = some (bz (al (pWay (aC S n) false) ((aC S n).length - 1) 1), g) := fun g Mg => m_isStrict Mg.1.1 hn Cn.1.1 (Mg.1.2.1 n hn) Cn.1.2.1 false
    cases ct : canT (aC S n) with
    | true =>
      obtain ⟨g3, ks, E3, P3, C3, O3⟩ := c_turn_ok hn ct K C
      have M3 := M.out O3
      have f1 : Fr (fun r c => r = 220 ∧ c = 0) g3 (sI g3 220 0 0) := Fr.I _ ⟨rfl, rfl⟩
      have M4 := M3.sm K f1 (fun r c z => by omega)
      have f1' : Fr In220 g3 (sI g3 220 0 0) := f1.mono (fun r c z => by unfold In220; omega)
      rw [canT_e] at ct
      cases cu : al (pWay (aC S n) true) ((aC S n).length - 1) 1 with
      | true =>
        obtain ⟨g8, E8, K8, C8, M8⟩ := m_turn46 (b := true) hn K cu P3 C3 f1' M4
        refine ⟨i32 (ks.length : Int), g3, g8, actA S 6 6 ks, E3, ?_, K8, C8, M8⟩
        unfold fX7_turn
        rw [if_pos M3.1.1.k220, lt_def, m_isStore bj, bd_some, decide_eq_true h3, if_neg bzt0, up _ M4, bd_some, cu, if_neg bzt0, E8]
      | false =>
        rw [cu, Bool.false_or] at ct
        have f2 : Fr In220 g3 (sI g3 220 0 0) := f1'
        have Cn2 := Cn
        -- down: the second test
        obtain ⟨g8, E8, K8, C8, M8⟩ := m_turn46 (b := false) hn K ct P3 C3 f1' M4
        refine ⟨i32 (ks.length : Int), g3, g8, actA S 6 6 ks, E3, ?_, K8, C8, M8⟩
        unfold fX7_turn
        rw [if_pos M3.1.1.k220, lt_def, m_isStore bj, bd_some, decide_eq_true h3, if_neg bzt0, up _ M4, bd_some, cu, if_pos bz_f, dn _ M4, bd_some, ct, if_neg bzt0, E8]
    | false =>
      refine ref_cal2 K C M (a := -4) (by decide) ?_ (fun g Mg => ?_)
      · obtain ⟨cap, lst, c1, c2, c3, c4, c5⟩ := C
        have wn := c1.1.2.1 n (by omega)
        rw [sh_lo (by omega), c2 n (by omega)] at wn
        have ec := c_canBeTurned wn Cn.1.2.1
        have xn : ix (i32 (n : Int)) 7 := ix_i (by omega) (by omega) (by decide)
        have nn := nat_i n (by omega)
        unfold fX6_turn
        rw [c_isStore bj, bd_some, decide_eq_true h3, if_neg bzt0, if_pos co.k2, co.r2_0, if_pos co.k3, co.l3, if_pos xn]
        simp only [nn]
        rw [if_pos wn.1.1, ec, bd_some, ct, if_pos bz_f, m4_32]
      · rw [canT_e, Bool.or_eq_false_iff] at ct
        have f1 : Fr (fun r c => r = 220 ∧ c = 0) g (sI g 220 0 0) := Fr.I _ ⟨rfl, rfl⟩
        have M4 := Mg.sm K f1 (fun r c z => by omega)
        unfold fX7_turn
        rw [if_pos Mg.1.1.k220, lt_def, m_isStore bj, bd_some, decide_eq_true h3, if_neg bzt0, up _ M4, bd_some, ct.1, if_pos bz_f, dn _ M4, bd_some, ct.2, if_pos bz_f, m4_32]
  · refine ref_cal K C M (a := -2) (by decide) ?_ (fun g q => ?_)
    · unfold fX6_turn
      rw [c_isStore bj, bd_some, decide_eq_false h3, if_pos bz_f, if_pos co.k2, m2_32]
    · unfold fX7_turn
      rw [if_pos q.k220, lt_def, m_isStore bj, bd_some, decide_eq_false h3, if_pos bz_f, m2_32]
end TW
