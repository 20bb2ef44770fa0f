/-! CALLS: times, both sides -/
section TJ
variable {h : xH} {S : Ast} {r : Int} {sps : List Spn}
theorem lby_ends (p : Spn) : lnF (lby p) = p.1 ∧ lnT (lby p) = p.2.2.1 := by
  unfold lby
  split <;> exact ⟨rfl, rfl⟩
theorem tm_pw {ks : List Kn} (C : Can ks) : (((spL ks).map (tmS r)).map lby).Pairwise (fun p q => lnT p ≤ lnF q) := by
  rw [List.pairwise_map, List.pairwise_map]
  refine (sp_pw C.1.2.2).imp (fun {a b} hab => ?_)
  rw [(lby_ends _).2, (lby_ends _).1]
  exact hab
theorem tm_bd {ks : List Kn} (C : Can ks) (br : 0 ≤ r ∧ r ≤ 60) : ∀ l ∈ ((spL ks).map (tmS r)).map lby, LBd 33872256000 1425600 23760 l ∧ (-5940 ≤ lnF l ∧ lnF l ≤ 5940) ∧ (-5940 ≤ lnT l ∧ lnT l ≤ 5940) ∧ lnF l ≤ lnT l := by
  intro l hl
  obtain ⟨q, hq, e⟩ := List.mem_map.mp hl
  obtain ⟨p, hp, e2⟩ := List.mem_map.mp hq
  have b := lby_b ((can_sb C).2 p hp)
  obtain ⟨s1, s2, s3, s4, s5⟩ := sp_b32 C.1.2.1 C.1.2.2 p hp
  rw [← e, ← e2, tm_lby]
  have m1 := mul_b (M := 564537600) (N := 60) b.1.1 (show -60 ≤ r ∧ r ≤ 60 by omega)
  have m2 := mul_b (M := 23760) (N := 60) b.1.2.1 (show -60 ≤ r ∧ r ≤ 60 by omega)
  have ee := lby_ends p
  refine ⟨⟨⟨?_, ?_⟩, ⟨?_, ?_⟩, b.1.2.2.1, b.1.2.2.2⟩, ?_, ?_, ?_⟩
  · show -33872256000 ≤ lnA (lby p) * r; omega
  · show lnA (lby p) * r ≤ 33872256000; omega
  · show -1425600 ≤ lnB (lby p) * r; omega
  · show lnB (lby p) * r ≤ 1425600; omega
  · show -5940 ≤ lnF (lby p) ∧ lnF (lby p) ≤ 5940; omega
  · show -5940 ≤ lnT (lby p) ∧ lnT (lby p) ≤ 5940; omega
  · show lnF (lby p) ≤ lnT (lby p); omega
theorem tm_len {ks : List Kn} (C : Can ks) : (((spL ks).map (tmS r)).map lby).length ≤ 31 := by
  rw [List.length_map, List.length_map]
  have := (can_sb C).1
  omega
theorem tm_lok {ks : List Kn} (C : Can ks) (br : 0 ≤ r ∧ r ≤ 60) : LOk 33872256000 1425600 23760 5940 1 (lnn (((spL ks).map (tmS r)).map lby)) (((spL ks).map (tmS r)).map lby).length := dis_lok (tm_len C) (tm_pw C) (fun l hl => ⟨(tm_bd C br l hl).1, (tm_bd C br l hl).2.1, (tm_bd C br l hl).2.2.1⟩) ⟨by decide, by decide, by decide, by decide⟩ (by decide)
theorem tm_co {ks : List Kn} (C : Can ks) (br : 0 ≤ r ∧ r ≤ 60) : CO 33872256000 1425600 23760 5940 5940 1 (lnn (((spL ks).map (tmS r)).map lby)) (((spL ks).map (tmS r)).map lby).length 288 := dis_co (tm_len C) (tm_pw C) (tm_bd C br) ⟨by decide, by decide, by decide, by decide⟩ (by decide)
theorem m_tml (hs : sps.length ≤ 12) (hb : ∀ p ∈ sps, SpB p) (br : 0 ≤ r ∧ r ≤ 60) : ∀ (d k m : Nat) (h : xH) (ll : List Ln), k + d = sps.length → d < m → Mo h → Ens h 0 sps → hI h 220 26 = i32 sps.length → Lnl h ll → ll.length + d ≤ 700 → ∃ h', fX7_times_l50 m 220 (i32 r) (i32 (k : Int)) h = bd (fX7_onto 220 10 h') (fun w4 g2 => some (w4, g2)) ∧ Lnl h' (ll ++ (((sps.drop k).map (tmS r)).map lby)) ∧ Fr AI h h' := by
  intro d
  induction d with
  | zero =>
    intro k m h ll hk hm q E c w hl
    obtain ⟨m, rfl⟩ : ∃ k, m = k + 1 := ⟨m - 1, by omega⟩
    refine ⟨h, ?_, by rw [List.drop_eq_nil_of_le (by omega)]; simpa using w, Fr.rf h⟩
    show fX7_times_b50 _ 220 _ _ h = _
    unfold fX7_times_b50
    rw [if_pos q.k220, c, if_pos ((i32_le ⟨by omega, by omega⟩ ⟨by omega, by omega⟩).mpr (by omega))]
  | succ d ih =>
    intro k m h ll hk hm q E c w hl
    obtain ⟨m, rfl⟩ : ∃ k, m = k + 1 := ⟨m - 1, by omega⟩
    have hkl : k < sps.length := by omega
    have hg : sps[k]? = some sps[k] := List.getElem?_eq_getElem hkl
    obtain ⟨b1, b2, b3, b4, b5⟩ := hb sps[k] (List.getElem_mem _)
    have v := E k _ hg
    obtain ⟨h1, E1, A1, F1⟩ := m_lineBy q w (by omega) (x1 := sps[k].1) (y1 := sps[k].2.1 * r) (x2 := sps[k].2.2.1) (y2 := sps[k].2.2.2 * r) ⟨by omega, by omega⟩ ⟨by omega, by omega⟩
    obtain ⟨h2, E2, A2, F2⟩ := ih (k + 1) m h1 _ (by omega) (by omega) (F1.mo q) (E.fr F1 AI_en) (by rw [(F1.2.2 220 26 (by unfold AI; omega)).1]; exact c) A1 (by rw [List.length_append]; show ll.length + 1 + d ≤ 700; omega)
    refine ⟨h2, ?_, ?_, F1.tr F2⟩
    · show fX7_times_b50 _ 220 _ _ h = _
      unfold fX7_times_b50
      have e0 : (i32 (4 * (k : Int))).toNatClampNeg = 0 + 4 * k := by rw [i32_nat (by omega) (by omega)]; omega
      have e1 : (i32 (4 * (k : Int) + 1)).toNatClampNeg = 0 + 4 * k + 1 := by rw [i32_nat (by omega) (by omega)]; omega
      have e2 : (i32 (4 * (k : Int) + 2)).toNatClampNeg = 0 + 4 * k + 2 := by rw [i32_nat (by omega) (by omega)]; omega
      have e3 : (i32 (4 * (k : Int) + 3)).toNatClampNeg = 0 + 4 * k + 3 := by rw [i32_nat (by omega) (by omega)]; omega
      have x0 : ix (i32 (4 * (k : Int))) 96 := ix_i (by omega) (by omega) (by decide)
      have x1 : ix (i32 (4 * (k : Int) + 1)) 96 := ix_i (by omega) (by omega) (by decide)
      have x2 : ix (i32 (4 * (k : Int) + 2)) 96 := ix_i (by omega) (by omega) (by decide)
      have x3 : ix (i32 (4 * (k : Int) + 3)) 96 := ix_i (by omega) (by omega) (by decide)
      have y1 : B32 sps[k].1 := ⟨by omega, by omega⟩
      have y2 : B32 sps[k].2.1 := ⟨by omega, by omega⟩
      have y3 : B32 sps[k].2.2.1 := ⟨by omega, by omega⟩
      have y4 : B32 sps[k].2.2.2 := ⟨by omega, by omega⟩
      have y5 : B32 r := ⟨by omega, by omega⟩
      rw [if_pos q.k220, c, if_neg (fun z => by have := (i32_le ⟨by omega, by omega⟩ ⟨by omega, by omega⟩).mp z; omega)]
      simp only [lt_def, q.r25, q.k240, q.l240, fou32, one32, two32, thr32, i32_mul, i32_add, i64_mul, if_pos x0, if_pos x1, if_pos x2, if_pos x3, e0, e1, e2, e3, v.1, v.2.1, v.2.2.1, v.2.2.2, i64_of32 y1, i64_of32 y2, i64_of32 y3, i64_of32 y4, i64_of32 y5, E1, bd_some, reduceIte]
      exact E2
    · rw [List.drop_eq_getElem_cons hkl, List.map_cons, List.map_cons]
      rw [List.append_assoc] at A2
      exact A2
theorem c_times_ok {n : Nat} (hn : n < 6) (br : 0 ≤ r ∧ r ≤ 60) (K : AOk S) (C : CSt h S) : ∃ g ks, fX6_times 2 (i32 (n : Int)) (i32 r) h = some (i32 (ks.length : Int), g) ∧ PaperIs (lnn (((spL (aC S n)).map (tmS r)).map lby)) (((spL (aC S n)).map (tmS r)).map lby).length ks ∧ CSt g (actA S 10 6 ks) ∧ Out h g := by
  obtain ⟨cap, lst, c1, c2, c3, c4, c5⟩ := C
  have co := c1.1.1
  have Cn := K.1.1 n hn
  have s1 := can_sb Cn
  obtain ⟨h1, E1, w4, w7, F1⟩ := c_loadOne (n := n) c1.1 hn (by rw [c2 n (by omega)]; exact Cn)
  rw [c2 n (by omega)] at w4
  have I1 := c1.1.ald F1
  obtain ⟨h2, E2, w2, F2⟩ := c_tml (r := r) s1.1 s1.2 br (spL (aC S n)).length 0 FU h1 [] (by omega) (by rw [FU_eq]; omega) I1 w4 w7 (by show 0 + (spL (aC S n)).length ≤ 288; omega)
  rw [List.nil_append, List.drop_zero] at w2
  obtain ⟨g, ks, E3, P3, C3, O3⟩ := c_ontoG (act := 10) (tm_co Cn br) c1 c2 c3 c5 (F1.tr (F2.mono (fun r k z => Or.inr z))) (fun r k z => ald_ok z) w2
  refine ⟨g, ks, ?_, P3, C3, O3⟩
  have E3' : fX6_ontoPaper 2 10 h2 = some (i32 (ks.length : Int), g) := E3
  have E2' : fX6_times_l37 FU 2 (i32 r) 0 h1 = bd (fX6_ontoPaper 2 10 h2) (fun w5 g3 => some (w5, g3)) := E2
  have d1 : decide (0 ≤ (n : Int) ∧ (n : Int) ≤ 5) = true := decide_eq_true (by omega)
  have l1 : (i32 r < (0 : Int32)) ↔ r < 0 := i32_lt (b := 0) ⟨by omega, by omega⟩ ⟨by decide, by decide⟩
  have l2 : (i32 r ≤ (60 : Int32)) ↔ r ≤ 60 := i32_le (b := 60) ⟨by omega, by omega⟩ ⟨by decide, by decide⟩
  unfold fX6_times
  rw [if_neg (fun z => by have := l1.mp z; omega), if_pos (l2.mpr br.2), c_isStore ⟨by omega, by omega⟩, bd_some, d1, if_neg bzt0, if_pos co.k2, E1, bd_some, lt_def, E2', E3', bd_some]
end TJ
