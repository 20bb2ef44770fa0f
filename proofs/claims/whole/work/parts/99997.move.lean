/-! CALLS: move -/
section MV
variable {h : xH} {S : Ast} {cap : Nat → Nat} {lst : Nat → List Kn} {dx dy : Int} {sps : List Spn}
theorem c_mvl (hs : sps.length ≤ 12) (hb : ∀ p ∈ sps, SpB p) (bx : -5940 ≤ dx ∧ dx ≤ 5940) (by0 : -5940 ≤ dy ∧ dy ≤ 5940) : ∀ (d k m : Nat) (h : xH) (ll : List Ln), k + d = sps.length → d < m → ShI h cap lst → CLl h 74 (sps.map lby) → CLl h 67 ll → ll.length + d ≤ 288 → ∃ h', fX6_move_l44 m 2 (i32 dx) (i32 dy) (i32 (k : Int)) h = bd (fX6_ontoPaper 2 9 h') (fun w5 g3 => some (w5, g3)) ∧ CLl h' 67 (ll ++ (((sps.drop k).map (mvS dx dy)).map lby)) ∧ Fr (AY 67) h h' := by
  intro d
  induction d with
  | zero =>
    intro k m h ll hk hm I w4 w7 hl
    obtain ⟨m, rfl⟩ : ∃ k, m = k + 1 := ⟨m - 1, by omega⟩
    have co := I.1
    have c0 := w4.1
    rw [List.length_map] at c0
    refine ⟨h, ?_, by rw [List.drop_eq_nil_of_le (by omega)]; simpa using w7, Fr.rf h⟩
    show fX6_move_b44 _ 2 _ _ _ h = _
    unfold fX6_move_b44
    rw [if_pos co.k2, co.r2_9, if_pos co.lo74.1, c0, if_pos ((i32_le ⟨by omega, by omega⟩ ⟨by omega, by omega⟩).mpr (by omega))]
  | succ d ih =>
    intro k m h ll hk hm I w4 w7 hl
    obtain ⟨m, rfl⟩ : ∃ k, m = k + 1 := ⟨m - 1, by omega⟩
    have co := I.1
    have c0 := w4.1
    rw [List.length_map] at c0
    have hkl : k < sps.length := by omega
    have hg : sps[k]? = some sps[k] := List.getElem?_eq_getElem hkl
    obtain ⟨h1, E1, w1, F1⟩ := c_addMoved (k := k) co.lo74 co.lo67 w4 w7 (by omega) hg (by omega) (hb _ (List.getElem_mem _)) bx by0
    have I1 := I.ay F1
    obtain ⟨h2, E2, w2, F2⟩ := ih (k + 1) m h1 _ (by omega) (by omega) I1 (w4.fr F1 (fun r c z y => by unfold AY at z y; omega)) w1 (by rw [List.length_append]; show ll.length + 1 + d ≤ 288; omega)
    refine ⟨h2, ?_, ?_, F1.tr F2⟩
    · show fX6_move_b44 _ 2 _ _ _ h = _
      unfold fX6_move_b44
      rw [if_pos co.k2, co.r2_9, if_pos co.lo74.1, c0, if_neg (fun z => by have := (i32_le ⟨by omega, by omega⟩ ⟨by omega, by omega⟩).mp z; omega), co.r2_8, if_pos co.lo67.1, E1, bd_some, lt_def, one32, i32_add, kp1]
      exact E2
    · rw [List.drop_eq_getElem_cons hkl, List.map_cons, List.map_cons]
      rw [List.append_assoc] at w2
      exact w2
theorem m_mvl (hs : sps.length ≤ 12) (hb : ∀ p ∈ sps, SpB p) (bx : -5940 ≤ dx ∧ dx ≤ 5940) (by0 : -5940 ≤ dy ∧ dy ≤ 5940) : ∀ (d k m : Nat) (h : xH) (ll : List Ln), k + d = sps.length → d < m → Mo h → Ens h 0 sps → hI h 220 26 = i32 sps.length → Lnl h ll → ll.length + d ≤ 700 → ∃ h', fX7_move_l55 m 220 (i32 dx) (i32 dy) (i32 (k : Int)) h = bd (fX7_onto 220 9 h') (fun w4 g2 => some (w4, g2)) ∧ Lnl h' (ll ++ (((sps.drop k).map (mvS dx dy)).map lby)) ∧ Fr AI h h' := by
  intro d
  induction d with
  | zero =>
    intro k m h ll hk hm q E c w hl
    obtain ⟨m, rfl⟩ : ∃ k, m = k + 1 := ⟨m - 1, by omega⟩
    refine ⟨h, ?_, by rw [List.drop_eq_nil_of_le (by omega)]; simpa using w, Fr.rf h⟩
    show fX7_move_b55 _ 220 _ _ _ h = _
    unfold fX7_move_b55
    rw [if_pos q.k220, c, if_pos ((i32_le ⟨by omega, by omega⟩ ⟨by omega, by omega⟩).mpr (by omega))]
  | succ d ih =>
    intro k m h ll hk hm q E c w hl
    obtain ⟨m, rfl⟩ : ∃ k, m = k + 1 := ⟨m - 1, by omega⟩
    have hkl : k < sps.length := by omega
    have hg : sps[k]? = some sps[k] := List.getElem?_eq_getElem hkl
    obtain ⟨b1, b2, b3, b4, b5⟩ := hb sps[k] (List.getElem_mem _)
    have v := E k _ hg
    obtain ⟨h1, E1, A1, F1⟩ := m_lineBy q w (by omega) (x1 := sps[k].1 + dx) (y1 := sps[k].2.1 + dy) (x2 := sps[k].2.2.1 + dx) (y2 := sps[k].2.2.2 + dy) ⟨by omega, by omega⟩ ⟨by omega, by omega⟩
    obtain ⟨h2, E2, A2, F2⟩ := ih (k + 1) m h1 _ (by omega) (by omega) (F1.mo q) (E.fr F1 AI_en) (by rw [(F1.2.2 220 26 (by unfold AI; omega)).1]; exact c) A1 (by rw [List.length_append]; show ll.length + 1 + d ≤ 700; omega)
    refine ⟨h2, ?_, ?_, F1.tr F2⟩
    · show fX7_move_b55 _ 220 _ _ _ h = _
      unfold fX7_move_b55
      have e0 : (i32 (4 * (k : Int))).toNatClampNeg = 0 + 4 * k := by rw [i32_nat (by omega) (by omega)]; omega
      have e1 : (i32 (4 * (k : Int) + 1)).toNatClampNeg = 0 + 4 * k + 1 := by rw [i32_nat (by omega) (by omega)]; omega
      have e2 : (i32 (4 * (k : Int) + 2)).toNatClampNeg = 0 + 4 * k + 2 := by rw [i32_nat (by omega) (by omega)]; omega
      have e3 : (i32 (4 * (k : Int) + 3)).toNatClampNeg = 0 + 4 * k + 3 := by rw [i32_nat (by omega) (by omega)]; omega
      have x0 : ix (i32 (4 * (k : Int))) 96 := ix_i (by omega) (by omega) (by decide)
      have x1 : ix (i32 (4 * (k : Int) + 1)) 96 := ix_i (by omega) (by omega) (by decide)
      have x2 : ix (i32 (4 * (k : Int) + 2)) 96 := ix_i (by omega) (by omega) (by decide)
      have x3 : ix (i32 (4 * (k : Int) + 3)) 96 := ix_i (by omega) (by omega) (by decide)
      have y1 : B32 (sps[k].1 + dx) := ⟨by omega, by omega⟩
      have y2 : B32 (sps[k].2.1 + dy) := ⟨by omega, by omega⟩
      have y3 : B32 (sps[k].2.2.1 + dx) := ⟨by omega, by omega⟩
      have y4 : B32 (sps[k].2.2.2 + dy) := ⟨by omega, by omega⟩
      rw [if_pos q.k220, c, if_neg (fun z => by have := (i32_le ⟨by omega, by omega⟩ ⟨by omega, by omega⟩).mp z; omega)]
      simp only [lt_def, q.r25, q.k240, q.l240, fou32, one32, two32, thr32, i32_mul, i32_add, if_pos x0, if_pos x1, if_pos x2, if_pos x3, e0, e1, e2, e3, v.1, v.2.1, v.2.2.1, v.2.2.2, i64_of32 y1, i64_of32 y2, i64_of32 y3, i64_of32 y4, E1, bd_some, reduceIte]
      exact E2
    · rw [List.drop_eq_getElem_cons hkl, List.map_cons, List.map_cons]
      rw [List.append_assoc] at A2
      exact A2
theorem mv_sb {ks : List Kn} (C : Can ks) (bx : -5940 ≤ dx ∧ dx ≤ 5940) (by0 : -5940 ≤ dy ∧ dy ≤ 5940) : ∀ p ∈ (spL ks).map (mvS dx dy), SpB p := fun p hp => by
  obtain ⟨s, hs, e⟩ := List.mem_map.mp hp
  obtain ⟨a, b, c, d, e5⟩ := sp_b32 C.1.2.1 C.1.2.2 s hs
  rw [← e]
  refine ⟨?_, ?_, ?_, ?_, ?_⟩
  · show -11880 ≤ s.1 + dx ∧ s.1 + dx ≤ 11880; omega
  · show -11880 ≤ s.2.1 + dy ∧ s.2.1 + dy ≤ 11880; omega
  · show -11880 ≤ s.2.2.1 + dx ∧ s.2.2.1 + dx ≤ 11880; omega
  · show -11880 ≤ s.2.2.2 + dy ∧ s.2.2.2 + dy ≤ 11880; omega
  · show s.1 + dx ≤ s.2.2.1 + dx; omega
theorem c_move_ok {n : Nat} (hn : n < 6) (bx : -5940 ≤ dx ∧ dx ≤ 5940) (by0 : -5940 ≤ dy ∧ dy ≤ 5940) (K : AOk S) (C : CSt h S) : ∃ g ks, fX6_move 2 (i32 (n : Int)) (i32 dx) (i32 dy) h = some (i32 (ks.length : Int), g) ∧ PaperIs (lnn (((spL (aC S n)).map (mvS dx dy)).map lby)) (((spL (aC S n)).map (mvS dx dy)).map lby).length ks ∧ CSt g (actA S 9 6 ks) ∧ Out h g := by
  obtain ⟨cap, lst, c1, c2, c3, c4, c5⟩ := C
  have co := c1.1.1
  have Cn := K.1.1 n hn
  have s1 := can_sb Cn
  obtain ⟨h1, E1, w4, w7, F1⟩ := c_loadOne (n := n) c1.1 hn (by rw [c2 n (by omega)]; exact Cn)
  rw [c2 n (by omega)] at w4
  have I1 := c1.1.ald F1
  obtain ⟨h2, E2, w2, F2⟩ := c_mvl (dx := dx) (dy := dy) s1.1 s1.2 bx by0 (spL (aC S n)).length 0 FU h1 [] (by omega) (by rw [FU_eq]; omega) I1 w4 w7 (by show 0 + (spL (aC S n)).length ≤ 288; omega)
  rw [List.nil_append, List.drop_zero] at w2
  obtain ⟨g, ks, E3, P3, C3, O3⟩ := c_ontoP (act := 9) (sps := (spL (aC S n)).map (mvS dx dy)) (by rw [List.length_map]; omega) (mv_sb Cn bx by0) c1 c2 c3 c5 (F1.tr (F2.mono (fun r k z => Or.inr z))) (fun r k z => ald_ok z) w2
  refine ⟨g, ks, ?_, P3, C3, O3⟩
  have E3' : fX6_ontoPaper 2 9 h2 = some (i32 (ks.length : Int), g) := E3
  have E2' : fX6_move_l44 FU 2 (i32 dx) (i32 dy) 0 h1 = bd (fX6_ontoPaper 2 9 h2) (fun w5 g3 => some (w5, g3)) := E2
  have d1 : decide (0 ≤ (n : Int) ∧ (n : Int) ≤ 5) = true := decide_eq_true (by omega)
  unfold fX6_move
  rw [i64_of32 ⟨by omega, by omega⟩, c_isPlace ⟨by omega, by omega⟩, bd_some, decide_eq_true bx, if_neg bzt0, i64_of32 ⟨by omega, by omega⟩, c_isPlace ⟨by omega, by omega⟩, bd_some, decide_eq_true by0, if_neg bzt0, c_isStore ⟨by omega, by omega⟩, bd_some, d1, if_neg bzt0, if_pos co.k2, E1, bd_some, lt_def, E2', E3', bd_some]
theorem Cal_move (a b c : Int32) : Cal (fX6_move 2 a b c) (fX7_move 220 a b c) := by
  obtain ⟨j, bj, rfl⟩ := i32_ex a
  obtain ⟨dx, bdx, rfl⟩ := i32_ex b
  obtain ⟨dy, bdy, rfl⟩ := i32_ex c
  intro h S K C M
  have co := C.co
  have B6x : B64 dx := ⟨by have := bdx.1; omega, by have := bdx.2; omega⟩
  have B6y : B64 dy := ⟨by have := bdy.1; omega, by have := bdy.2; omega⟩
  by_cases hx : -5940 ≤ dx ∧ dx ≤ 5940
  · by_cases hy : -5940 ≤ dy ∧ dy ≤ 5940
    · by_cases h3 : 0 ≤ j ∧ j ≤ 5
      · obtain ⟨n, rfl⟩ : ∃ n : Nat, j = n := ⟨j.toNat, by omega⟩
        have hn : n < 6 := by omega
        have Cn := K.1.1 n hn
        have s1 := can_sb Cn
        obtain ⟨g3, ks, E3, P3, C3, O3⟩ := c_move_ok (dx := dx) (dy := dy) hn hx hy K C
        have M3 := M.out O3
        have f1 : Fr (fun r c => r = 220 ∧ c = 0) g3 (sI g3 220 0 0) := Fr.I _ ⟨rfl, rfl⟩
        have M4 := M3.sm K f1 (fun r c z => by omega)
        obtain ⟨g5, E5, N5, L5, F5⟩ := m_laySpans (a := 0) (Or.inl rfl) hn Cn.1.1 Cn.1.2.2 M4.1.1 (M4.1.2.1 n hn)
        have M5 := M4.sm K F5 (fun r c z => by unfold AE at z; omega)
        have f6 : Fr (fun r c => r = 220 ∧ c = 19) g5 (sI g5 220 19 0) := Fr.I _ ⟨rfl, rfl⟩
        have M6 := M5.sm K f6 (fun r c z => by omega)
        have w0 : Lnl (sI g5 220 19 0) [] := ⟨by rw [hI_sI, if_pos ⟨rfl, rfl⟩]; rfl, fun k l e => by rw [List.getElem?_nil] at e; cases e⟩
        obtain ⟨g7, E7, L7, F7⟩ := m_mvl (dx := dx) (dy := dy) s1.1 s1.2 hx hy (spL (aC S n)).length 0 FU (sI g5 220 19 0) [] (by omega) (by rw [FU_eq]; omega) M6.1.1 (N5.fr f6 (fun k z => by omega)) (by rw [(f6.2.2 220 26 (by omega)).1]; exact L5) w0 (by show 0 + (spL (aC S n)).length ≤ 700; omega)
        rw [List.nil_append, List.drop_zero] at L7
        have M7 := M6.sm K F7 (fun r c z => by unfold AI at z; omega)
        have FF : Fr In220 g3 g7 := ((f1.mono (fun r c z => by unfold In220; omega)).tr (F5.mono (fun r c z => by unfold AE at z; unfold In220; omega))).tr ((f6.mono (fun r c z => by unfold In220; omega)).tr (F7.mono (fun r c z => by unfold AI at z; unfold In220; omega)))
        obtain ⟨g8, E8, K8, C8, M8⟩ := fin_onto (act := 9) (by rw [List.length_map]; omega) (mv_sb Cn hx hy) K P3 C3 FF M7 L7
        refine ⟨i32 (ks.length : Int), g3, g8, actA S 9 6 ks, E3, ?_, K8, C8, M8⟩
        have E8' : fX7_onto 220 9 g7 = some (i32 (ks.length : Int), g8) := E8
        have E7' : fX7_move_l55 FU 220 (i32 dx) (i32 dy) 0 (sI g5 220 19 0) = bd (fX7_onto 220 9 g7) (fun w4 g2 => some (w4, g2)) := E7
        have E5' : fX7_laySpans 220 (i32 (n : Int)) 0 (sI g3 220 0 0) = some ((), g5) := E5
        unfold fX7_move
        rw [if_pos M3.1.1.k220, lt_def, i64_of32 bdx, m_isPlace B6x, bd_some, decide_eq_true hx, if_neg bzt0, i64_of32 bdy, m_isPlace B6y, bd_some, decide_eq_true hy, if_neg bzt0, m_isStore bj, bd_some, decide_eq_true h3, if_neg bzt0, E5', bd_some, lt_def, lt_def, E7', E8', bd_some]
      · refine ref_cal K C M (a := -2) (by decide) ?_ (fun g q => ?_)
        · unfold fX6_move
          rw [i64_of32 bdx, c_isPlace B6x, bd_some, decide_eq_true hx, if_neg bzt0, i64_of32 bdy, c_isPlace B6y, bd_some, decide_eq_true hy, if_neg bzt0, c_isStore bj, bd_some, decide_eq_false h3, if_pos bz_f, if_pos co.k2, m2_32]
        · unfold fX7_move
          rw [if_pos q.k220, lt_def, i64_of32 bdx, m_isPlace B6x, bd_some, decide_eq_true hx, if_neg bzt0, i64_of32 bdy, m_isPlace B6y, bd_some, decide_eq_true hy, if_neg bzt0, m_isStore bj, bd_some, decide_eq_false h3, if_pos bz_f, m2_32]
    · refine ref_cal K C M (a := -1) (by decide) ?_ (fun g q => ?_)
      · unfold fX6_move fX6_move_b16
        rw [i64_of32 bdx, c_isPlace B6x, bd_some, decide_eq_true hx, if_neg bzt0, i64_of32 bdy, c_isPlace B6y, bd_some, decide_eq_false hy, if_pos bz_f, if_pos co.k2, m1_32]
      · have q0 : Mo (sI g 220 0 0) := (Fr.I (A := fun r _ => r = 220) _ rfl).mo q
        unfold fX7_move fX7_move_b21
        rw [if_pos q.k220, lt_def, i64_of32 bdx, m_isPlace B6x, bd_some, decide_eq_true hx, if_neg bzt0, i64_of32 bdy, m_isPlace B6y, bd_some, decide_eq_false hy, if_pos bz_f, if_pos q0.k220, m1_32]
  · refine ref_cal K C M (a := -1) (by decide) ?_ (fun g q => ?_)
    · unfold fX6_move fX6_move_b16
      rw [i64_of32 bdx, c_isPlace B6x, bd_some, decide_eq_false hx, if_pos bz_f, if_pos co.k2, m1_32]
    · have q0 : Mo (sI g 220 0 0) := (Fr.I (A := fun r _ => r = 220) _ rfl).mo q
      unfold fX7_move fX7_move_b21
      rw [if_pos q.k220, lt_def, i64_of32 bdx, m_isPlace B6x, bd_some, decide_eq_false hx, if_pos bz_f, if_pos q0.k220, m1_32]
end MV
