/-! CALLS: lay -/
section LB
variable {h : xH} {S : Ast}
theorem CurOk.paper {cur : Nat → List Kn} {ks : List Kn} (C : CurOk cur) (pb : PaB ks) (hp : ∃ L n, PaperIs L n ks) : CurOk (upA cur 6 ks) := by
  have e6 : upA cur 6 ks 6 = ks := by unfold upA; rw [if_pos rfl]
  refine ⟨fun i hi => ?_, by rw [e6]; exact pb, by rw [e6]; exact hp⟩
  have ei : upA cur 6 ks i = cur i := by unfold upA; rw [if_neg (by omega)]
  rw [ei]; exact C.1 i hi
theorem can_pab {ks : List Kn} (C : Can ks) : PaB ks := by
  refine ⟨by have := C.1.1; omega, fun k hk => ?_⟩
  obtain ⟨p1, p2, p3, p4⟩ := C.1.2.1 k hk
  rw [p1, p2]
  exact ⟨by omega, by decide, by omega, by decide⟩
theorem own_one {ks ks' : List Kn} (C : Can ks) (hp : PaperIs (lnn ((spL ks).map lby)) ((spL ks).map lby).length ks') : ks' = ks := by
  have hc : PaperIs (lnn ((spL ks).map lby)) (spL ks).length ks := C.2
  rw [List.length_map] at hp
  exact paper_one hp hc (fun x k => Iff.rfl)
theorem Cal_lay (a : Int32) : Cal (fX6_lay 2 a) (fX7_lay_ 220 a) := by
  obtain ⟨j, bi, rfl⟩ := i32_ex a
  intro h S K C M
  obtain ⟨cap, lst, c1, c2, c3, c4, c5⟩ := id C
  have co := c1.1.1
  by_cases h3 : 0 ≤ j ∧ j ≤ 5
  · obtain ⟨n, rfl⟩ : ∃ n : Nat, j = n := ⟨j.toNat, by omega⟩
    have hn : n < 6 := by omega
    have d3 : decide (0 ≤ (n : Int) ∧ (n : Int) ≤ 5) = true := decide_eq_true (by omega)
    have Cn := K.1.1 n hn
    have w7 := c1.1.2.1 7 (by decide)
    have wn := c1.1.2.1 n (by omega)
    have xn : ix (i32 (n : Int)) 7 := ix_i (by omega) (by omega) (by decide)
    have nn := nat_i n (by omega)
    rw [c2 n (by omega)] at wn
    obtain ⟨g2, cap2, E2, W2, T2⟩ := c_copyOf w7 wn (fun r k k' z => c1.1.2.2.1 7 n (by decide) (by omega) (by omega) r k k' z) (by have := Cn.1.1; omega)
    obtain ⟨g3, E3, C3, O3⟩ := c_act (B := fun _ _ => False) (slot := 6) (act := 11) c1 c2 c3 (by omega) c5 T2.1 T2.2.1 (T2.2.2.mono (fun _ _ z => Or.inl z)) (fun r k z => z.elim) W2
    have M3 := M.out O3
    have f1 : Fr (fun r c => r = 220 ∧ (c = 0 ∨ c = 19)) g3 (sI (sI g3 220 0 0) 220 19 0) := (Fr.I _ ⟨rfl, Or.inl rfl⟩).tr (Fr.I _ ⟨rfl, Or.inr rfl⟩)
    have M4 := M3.sm K f1 (fun r c z => by omega)
    have w0 : Lnl (sI (sI g3 220 0 0) 220 19 0) [] := ⟨by rw [hI_sI, if_pos ⟨rfl, rfl⟩]; rfl, fun k l e => by rw [List.getElem?_nil] at e; cases e⟩
    obtain ⟨g5, E5, L5, F5⟩ := m_linesOf hn Cn.1 M4.1.1 (M4.1.2.1 n hn) w0 (by decide)
    rw [List.nil_append] at L5
    have M5 := M4.sm K F5 (fun r c z => by unfold AQ AE AI at z; omega)
    obtain ⟨sl1, sb1⟩ := can_sb Cn
    obtain ⟨g6, ks, E6, P6, M6, F6⟩ := m_onto (act := 11) (by omega) sb1 K M5 L5
    have ek := own_one Cn P6
    rw [ek] at E6 M6
    have FF : Fr In220 g3 g6 := ((f1.mono (fun r c z => by unfold In220; omega)).tr (F5.mono (fun r c z => by unfold AQ AE AI at z; unfold In220; omega))).tr F6
    have E2' : fX4_copyOf (hR h 2 1) (hR h 3 n) h = some ((), g2) := by
      have e1 : sh h n = hR h 3 n := sh_lo (by omega)
      rw [← e1]; exact E2
    have E3' : fX6_settle 2 11 6 g2 = some (i32 ((aC S n).length : Int), g3) := E3
    have k7 : kc h (hR h 2 1) = 4 := w7.1.1
    refine ⟨i32 ((aC S n).length : Int), g3, g6, actA S 11 6 (aC S n), ?_, ?_, K.act (K.1.paper (can_pab Cn) ⟨_, _, Cn.2⟩), C3.inn FF, M6⟩
    · unfold fX6_lay
      rw [c_isStore bi, bd_some, d3, if_neg bzt0, if_pos co.k2, co.r2_0, if_pos co.k3, co.l3, if_pos xn]
      simp only [nn]
      rw [if_pos k7, E2', bd_some, E3', bd_some]
    · have E6' : fX7_onto 220 11 g5 = some (i32 ((aC S n).length : Int), g6) := E6
      unfold fX7_lay_
      rw [if_pos M3.1.1.k220, lt_def, m_isStore bi, bd_some, d3, if_neg bzt0, lt_def, E5, bd_some, E6', bd_some]
  · refine ref_cal K C M (a := -2) (by decide) ?_ (fun g q => ?_)
    · unfold fX6_lay
      rw [c_isStore bi, bd_some, decide_eq_false h3, if_pos bz_f, if_pos co.k2, m2_32]
    · unfold fX7_lay_
      rw [if_pos q.k220, lt_def, m_isStore bi, bd_some, decide_eq_false h3, if_pos bz_f, m2_32]
end LB
