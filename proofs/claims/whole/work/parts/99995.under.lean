/-! CALLS: under -/
section UN
variable {h : xH} {S : Ast} {cap : Nat → Nat} {lst : Nat → List Kn}
theorem ay_ok {r k : Nat} (z : AY 67 r k) : 67 ≤ r ∧ r ≤ 93 ∧ crf r k = none := by
  unfold AY at z
  exact ⟨by omega, by omega, crf_lo (by omega) (by omega) (by omega)⟩
theorem ShI.ay (I : ShI h cap lst) {h1 : xH} (F : Fr (AY 67) h h1) : ShI h1 cap lst := I.fr F (fun r k fr z => frc_no (ay_ok z).1 (ay_ok z).2.1 fr)
theorem c_addS {i : Nat} {ll : List Ln} (I : ShI h cap lst) (hi : i < 6) (C : Can (lst i)) (w : CLl h 67 ll) (hl : ll.length + 12 ≤ 288) : ∃ h', fX1_addShape 67 (hR h 3 i) h = some ((), h') ∧ CLl h' 67 (ll ++ (spL (lst i)).map lby) ∧ Fr (AY 67) h h' := by
  have W := I.2.1 i (by omega)
  rw [sh_lo (by omega)] at W
  exact c_addShape C.1 (by decide) I.1.lo67 w W (fun r k z y => frc_no (ay_ok y).1 (ay_ok y).2.1 (I.2.2.2.1 i (by omega) r k (by rw [sh_lo (by omega)]; exact z))) (by have := C.1.1; omega)
theorem c_sta (co : Co h) : fX1_start 67 h = some ((), sI h 67 0 0) ∧ CLl (sI h 67 0 0) 67 [] ∧ Fr (AY 67) h (sI h 67 0 0) := by
  refine ⟨?_, ⟨by rw [hI_sI, if_pos ⟨rfl, rfl⟩]; rfl, fun k l e => by rw [List.getElem?_nil] at e; cases e⟩, Fr.I _ (Or.inl ⟨rfl, rfl⟩)⟩
  unfold fX1_start
  rw [if_pos co.lo67.1, lt_def]
theorem fin_onto {act : Int} {sps : List Spn} {g g' : xH} {ks : List Kn} (hl : sps.length ≤ 31) (hb : ∀ p ∈ sps, SpB p) (K : AOk S) (P : PaperIs (lnn (sps.map lby)) (sps.map lby).length ks) (C3 : CSt g (actA S act 6 ks)) (F : Fr In220 g g') (M' : MSt g' S) (w : Lnl g' (sps.map lby)) : ∃ g2, fX7_onto 220 (i32 act) g' = some (i32 (ks.length : Int), g2) ∧ AOk (actA S act 6 ks) ∧ CSt g2 (actA S act 6 ks) ∧ MSt g2 (actA S act 6 ks) := by
  obtain ⟨g6, ks', E6, P6, M6, F6⟩ := m_onto (act := act) hl hb K M' w
  have ek : ks' = ks := paper_one P6 P (fun x k => Iff.rfl)
  rw [ek] at E6 M6
  exact ⟨g6, E6, K.act (K.1.paper (few_pab hl hb P) ⟨_, _, P⟩), C3.inn (F.tr F6), M6⟩
theorem c_under_ok {n m : Nat} (hn : n < 6) (hm : m < 6) (K : AOk S) (C : CSt h S) : ∃ g ks, fX6_under 2 (i32 (n : Int)) (i32 (m : Int)) h = some (i32 (ks.length : Int), g) ∧ PaperIs (lnn ((spL (aC S n) ++ spL (aC S m)).map lby)) ((spL (aC S n) ++ spL (aC S m)).map lby).length ks ∧ CSt g (actA S 4 6 ks) ∧ Out h g := by
  obtain ⟨cap, lst, c1, c2, c3, c4, c5⟩ := C
  have co := c1.1.1
  have Cn := K.1.1 n hn
  have Cm := K.1.1 m hm
  obtain ⟨E0, w0, F0⟩ := c_sta co
  have I0 := c1.1.ay F0
  obtain ⟨h1, E1, w1, F1⟩ := c_addS (i := n) I0 hn (by rw [c2 n (by omega)]; exact Cn) w0 (by decide)
  have I1 := I0.ay F1
  rw [c2 n (by omega), List.nil_append] at w1
  have s1 := can_sb Cn
  have s2 := can_sb Cm
  obtain ⟨h2, E2, w2, F2⟩ := c_addS (i := m) I1 hm (by rw [c2 m (by omega)]; exact Cm) w1 (by rw [List.length_map]; omega)
  rw [c2 m (by omega), ← List.map_append] at w2
  have I2 := I1.ay F2
  obtain ⟨g, ks, E3, P3, C3, O3⟩ := c_ontoP (act := 4) (sps := spL (aC S n) ++ spL (aC S m)) (by rw [List.length_append]; omega) (fun p hp => by
    rcases List.mem_append.mp hp with z | z
    · exact s1.2 p z
    · exact s2.2 p z) c1 c2 c3 c5 ((F0.tr F1).tr F2) (fun r k z => ay_ok z) w2
  refine ⟨g, ks, ?_, P3, C3, O3⟩
  have E3' : fX6_ontoPaper 2 4 h2 = some (i32 (ks.length : Int), g) := E3
  have xn : ix (i32 (n : Int)) 7 := ix_i (by omega) (by omega) (by decide)
  have nn := nat_i n (by omega)
  have xm : ix (i32 (m : Int)) 7 := ix_i (by omega) (by omega) (by decide)
  have nm := nat_i m (by omega)
  have d1 : decide (0 ≤ (n : Int) ∧ (n : Int) ≤ 5) = true := decide_eq_true (by omega)
  have d2 : decide (0 ≤ (m : Int) ∧ (m : Int) ≤ 5) = true := decide_eq_true (by omega)
  have k0 := I0.1
  have k1 := I1.1
  unfold fX6_under
  rw [c_isStore ⟨by omega, by omega⟩, bd_some, d1, if_neg bzt0, c_isStore ⟨by omega, by omega⟩, bd_some, d2, if_neg bzt0, if_pos co.k2, co.r2_8, if_pos co.lo67.1, E0, bd_some, k0.r2_0, if_pos k0.k3, k0.l3, if_pos xn, k0.r2_8, if_pos k0.lo67.1]
  simp only [nn]
  rw [E1, bd_some, k1.r2_0, if_pos k1.k3, k1.l3, if_pos xm, k1.r2_8, if_pos k1.lo67.1]
  simp only [nm]
  rw [E2, bd_some, E3', bd_some]
theorem Cal_under (a b : Int32) : Cal (fX6_under 2 a b) (fX7_under_ 220 a b) := by
  obtain ⟨j, bi, rfl⟩ := i32_ex a
  obtain ⟨i, bj, rfl⟩ := i32_ex b
  intro h S K C M
  have co := C.co
  by_cases h3 : 0 ≤ j ∧ j ≤ 5
  · by_cases h4 : 0 ≤ i ∧ i ≤ 5
    · obtain ⟨n, rfl⟩ : ∃ n : Nat, j = n := ⟨j.toNat, by omega⟩
      obtain ⟨m, rfl⟩ : ∃ n : Nat, i = n := ⟨i.toNat, by omega⟩
      have hn : n < 6 := by omega
      have hm : m < 6 := by omega
      have Cn := K.1.1 n hn
      have Cm := K.1.1 m hm
      have s1 := can_sb Cn
      have s2 := can_sb Cm
      obtain ⟨g3, ks, E3, P3, C3, O3⟩ := c_under_ok hn hm K C
      have M3 := M.out O3
      have f1 : Fr (fun r c => r = 220 ∧ (c = 0 ∨ c = 19)) g3 (sI (sI g3 220 0 0) 220 19 0) := (Fr.I _ ⟨rfl, Or.inl rfl⟩).tr (Fr.I _ ⟨rfl, Or.inr rfl⟩)
      have M4 := M3.sm K f1 (fun r c z => by omega)
      have w0 : Lnl (sI (sI g3 220 0 0) 220 19 0) [] := ⟨by rw [hI_sI, if_pos ⟨rfl, rfl⟩]; rfl, fun k l e => by rw [List.getElem?_nil] at e; cases e⟩
      obtain ⟨g5, E5, L5, F5⟩ := m_linesOf hn Cn.1 M4.1.1 (M4.1.2.1 n hn) w0 (by decide)
      rw [List.nil_append] at L5
      have M5 := M4.sm K F5 (fun r c z => by unfold AQ AE AI at z; omega)
      obtain ⟨g6, E6, L6, F6⟩ := m_linesOf hm Cm.1 M5.1.1 (M5.1.2.1 m hm) L5 (by rw [List.length_map]; omega)
      rw [← List.map_append] at L6
      have M6 := M5.sm K F6 (fun r c z => by unfold AQ AE AI at z; omega)
      have FF : Fr In220 g3 g6 := ((f1.mono (fun r c z => by unfold In220; omega)).tr (F5.mono (fun r c z => by unfold AQ AE AI at z; unfold In220; omega))).tr (F6.mono (fun r c z => by unfold AQ AE AI at z; unfold In220; omega))
      obtain ⟨g7, E7, K7, C7, M7⟩ := fin_onto (act := 4) (by rw [List.length_append]; omega) (fun p hp => by
        rcases List.mem_append.mp hp with z | z
        · exact s1.2 p z
        · exact s2.2 p z) K P3 C3 FF M6 L6
      refine ⟨i32 (ks.length : Int), g3, g7, actA S 4 6 ks, E3, ?_, K7, C7, M7⟩
      have E7' : fX7_onto 220 4 g6 = some (i32 (ks.length : Int), g7) := E7
      unfold fX7_under_
      rw [if_pos M3.1.1.k220, lt_def, m_isStore bi, bd_some, decide_eq_true h3, if_neg bzt0, m_isStore bj, bd_some, decide_eq_true h4, if_neg bzt0, lt_def, E5, bd_some, E6, bd_some, E7', bd_some]
    · refine ref_cal K C M (a := -2) (by decide) ?_ (fun g q => ?_)
      · unfold fX6_under fX6_under_b14
        rw [c_isStore bi, bd_some, decide_eq_true h3, if_neg bzt0, c_isStore bj, bd_some, decide_eq_false h4, if_pos bz_f, if_pos co.k2, m2_32]
      · have q0 : Mo (sI g 220 0 0) := (Fr.I (A := fun r _ => r = 220) _ rfl).mo q
        unfold fX7_under_ fX7_under__b19
        rw [if_pos q.k220, lt_def, m_isStore bi, bd_some, decide_eq_true h3, if_neg bzt0, m_isStore bj, bd_some, decide_eq_false h4, if_pos bz_f, if_pos q0.k220, m2_32]
  · refine ref_cal K C M (a := -2) (by decide) ?_ (fun g q => ?_)
    · unfold fX6_under fX6_under_b14
      rw [c_isStore bi, bd_some, decide_eq_false h3, if_pos bz_f, if_pos co.k2, m2_32]
    · have q0 : Mo (sI g 220 0 0) := (Fr.I (A := fun r _ => r = 220) _ rfl).mo q
      unfold fX7_under_ fX7_under__b19
      rw [if_pos q.k220, lt_def, m_isStore bi, bd_some, decide_eq_false h3, if_pos bz_f, if_pos q0.k220, m2_32]
end UN
