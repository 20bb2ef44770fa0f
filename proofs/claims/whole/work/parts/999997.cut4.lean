/-! CALLS: cut, the class -/
section CX
variable {h : xH} {S : Ast} {lo hi : Int}
theorem cu_b {ls : List Ln} (hb : ∀ l ∈ ls, LnB l) (b1 : -5940 ≤ lo ∧ lo ≤ 5940) (b2 : -5940 ≤ hi ∧ hi ≤ 5940) : ∀ l ∈ ls.filterMap (cuL lo hi), LnB l := by
  intro l hl
  obtain ⟨p, hp, e⟩ := List.mem_filterMap.mp hl
  obtain ⟨b, f1, f2, f3⟩ := hb p hp
  have m1 := (mx_b f1 (show -11880 ≤ lo ∧ lo ≤ 11880 by omega)).1
  have m2 := (mx_b f2 (show -11880 ≤ hi ∧ hi ≤ 11880 by omega)).2
  unfold cuL at e
  split at e
  · rename_i c
    rw [← Option.some.inj e]
    exact ⟨b, m1, m2, c⟩
  · cases e
theorem can_ln {ks : List Kn} (C : Can ks) : ((spL ks).map lby).length ≤ 12 ∧ ∀ l ∈ (spL ks).map lby, LnB l := by
  have s := can_sb C
  refine ⟨by rw [List.length_map]; exact s.1, fun l hl => ?_⟩
  obtain ⟨p, hp, e⟩ := List.mem_map.mp hl
  rw [← e]; exact lby_b (s.2 p hp)
theorem c_cut_ok {n : Nat} (hn : n < 6) (b1 : -5940 ≤ lo ∧ lo ≤ 5940) (b2 : -5940 ≤ hi ∧ hi ≤ 5940) (lh : lo ≤ hi) (K : AOk S) (C : CSt h S) : ∃ g ks, fX6_cut 2 (i32 (n : Int)) (i32 lo) (i32 hi) h = some (i32 (ks.length : Int), g) ∧ PaperIs (lnn (((spL (aC S n)).map lby).filterMap (cuL lo hi))) (((spL (aC S n)).map lby).filterMap (cuL lo hi)).length ks ∧ CSt g (actA S 8 6 ks) ∧ Out h g := by
  obtain ⟨cap, lst, c1, c2, c3, c4, c5⟩ := C
  have co := c1.1.1
  have Cn := K.1.1 n hn
  have s1 := can_ln Cn
  obtain ⟨h1, E1, w4, w7, F1⟩ := c_loadOne (n := n) c1.1 hn (by rw [c2 n (by omega)]; exact Cn)
  rw [c2 n (by omega)] at w4
  have I1 := c1.1.ald F1
  obtain ⟨h2, E2, w2, F2⟩ := c_cul (lo := lo) (hi := hi) s1.1 s1.2 b1 b2 ((spL (aC S n)).map lby).length 0 FU h1 [] (by omega) (by rw [FU_eq]; have := s1.1; omega) I1 w4 w7 (by have := s1.1; show 0 + ((spL (aC S n)).map lby).length ≤ 288; omega)
  rw [List.nil_append, List.drop_zero] at w2
  have fl := List.length_filterMap_le (cuL lo hi) ((spL (aC S n)).map lby)
  obtain ⟨g, ks, E3, P3, C3, O3⟩ := c_ontoPL (act := 8) (by have := s1.1; omega) (cu_b s1.2 b1 b2) c1 c2 c3 c5 (F1.tr (F2.mono (fun r k z => Or.inr z))) (fun r k z => ald_ok z) w2
  refine ⟨g, ks, ?_, P3, C3, O3⟩
  have E3' : fX6_ontoPaper 2 8 h2 = some (i32 (ks.length : Int), g) := E3
  have E2' : fX6_cut_l49 FU 2 (i32 lo) (i32 hi) 0 h1 = bd (fX6_ontoPaper 2 8 h2) (fun w5 g3 => some (w5, g3)) := E2
  have d1 : decide (0 ≤ (n : Int) ∧ (n : Int) ≤ 5) = true := decide_eq_true (by omega)
  have le1 : i32 lo ≤ i32 hi := (i32_le ⟨by omega, by omega⟩ ⟨by omega, by omega⟩).mpr lh
  unfold fX6_cut
  rw [i64_of32 ⟨by omega, by omega⟩, c_isPlace ⟨by omega, by omega⟩, bd_some, decide_eq_true b1, if_neg bzt0, i64_of32 ⟨by omega, by omega⟩, c_isPlace ⟨by omega, by omega⟩, bd_some, decide_eq_true b2, if_neg bzt0, if_pos le1, c_isStore ⟨by omega, by omega⟩, bd_some, d1, if_neg bzt0, if_pos co.k2, E1, bd_some, lt_def, E2', E3', bd_some]
end CX
