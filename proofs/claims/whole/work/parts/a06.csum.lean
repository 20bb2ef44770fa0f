/-! THE CLASS LOADS TWO STORES' LINES; CALLS: sum, the class -/
def ALp (r k : Nat) : Prop := ALd r k ∨ AY 81 r k
theorem alp_ok {r k : Nat} (z : ALp r k) : 67 ≤ r ∧ r ≤ 93 ∧ crf r k = none := by
  unfold ALp ALd AY at z
  exact ⟨by omega, by omega, crf_lo (by omega) (by omega) (by omega)⟩
section SA
variable {h : xH} {S : Ast} {cap : Nat → Nat} {lst : Nat → List Kn} {fs gs : List Ln}
theorem ShI.alp (I : ShI h cap lst) {h1 : xH} (F : Fr ALp h h1) : ShI h1 cap lst := I.fr F (fun r k fr z => frc_no (alp_ok z).1 (alp_ok z).2.1 fr)
theorem c_loadPair {n m : Nat} (I : ShI h cap lst) (hn : n < 6) (hm : m < 6) (C : Can (lst n)) (C' : Can (lst m)) : ∃ h', fX6_loadPair 2 (i32 (n : Int)) (i32 (m : Int)) h = some ((), h') ∧ CLl h' 74 ((spL (lst n)).map lby) ∧ CLl h' 81 ((spL (lst m)).map lby) ∧ CLl h' 67 [] ∧ Fr ALp h h' := by
  have co := I.1
  have xm : ix (i32 (m : Int)) 7 := ix_i (by omega) (by omega) (by decide)
  have nm := nat_i m (by omega)
  obtain ⟨h1, E1, w4, w7, F1⟩ := c_loadOne I hn C
  have I1 := I.ald F1
  have F2 : Fr (AY 81) h1 (sI h1 81 0 0) := Fr.I _ (Or.inl ⟨rfl, rfl⟩)
  have I2 := I1.alp (F2.mono (fun r k z => Or.inr z))
  have w0 : CLl (sI h1 81 0 0) 81 [] := ⟨by rw [hI_sI, if_pos ⟨rfl, rfl⟩]; rfl, fun k l e => by rw [List.getElem?_nil] at e; cases e⟩
  have W := I2.2.1 m (by omega)
  rw [sh_lo (by omega)] at W
  obtain ⟨h3, E3, w3, F3⟩ := c_addShape C'.1 (by decide) I2.1.lo81 w0 W (fun r k z y => frc_no (alp_ok (Or.inr y)).1 (alp_ok (Or.inr y)).2.1 (I2.2.2.2.1 m (by omega) r k (by rw [sh_lo (by omega)]; exact z))) (by have := C'.1.1; show 0 + (lst m).length ≤ 12; omega)
  rw [List.nil_append] at w3
  have F23 : Fr (AY 81) h1 h3 := F2.tr F3
  have ap1 : ∀ r' k, AY 74 r' k → ¬ AY 81 r' k := fun r' k z y => by unfold AY at z y; omega
  have ap2 : ∀ r' k, AY 67 r' k → ¬ AY 81 r' k := fun r' k z y => by unfold AY at z y; omega
  refine ⟨h3, ?_, w4.fr F23 ap1, w3, w7.fr F23 ap2, (F1.mono (fun r k z => Or.inl z)).tr (F23.mono (fun r k z => Or.inr z))⟩
  have k1 := I1.1
  have k2 := I2.1
  have S0 : fX1_start 81 h1 = some ((), sI h1 81 0 0) := by
    unfold fX1_start
    rw [if_pos k1.lo81.1, lt_def]
  unfold fX6_loadPair
  rw [if_pos co.k2, E1, bd_some, k1.r2_10, if_pos k1.lo81.1, S0, bd_some, k2.r2_0, if_pos k2.k3, k2.l3, if_pos xm, k2.r2_10, if_pos k2.lo81.1]
  simp only [nm]
  rw [E3, bd_some]
theorem c_addSum {k m : Nat} {f g : Ln} {ll : List Ln} (l4 : Lo h 74 12) (l8 : Lo h 81 12) (l7 : Lo h 67 288) (w4 : CLl h 74 fs) (w8 : CLl h 81 gs) (w7 : CLl h 67 ll) (hl : ll.length < 288) (hk : fs[k]? = some f) (hm : gs[m]? = some g) (k12 : k < 12) (m12 : m < 12) (hf : LnB f) (hg : LnB g) : ∃ h', fX1_addSum 67 74 (i32 (k : Int)) 81 (i32 (m : Int)) h = some ((), h') ∧ CLl h' 67 (ll ++ (suL f g).toList) ∧ Fr (AY 67) h h' := by
  have v := w4.2 k _ hk
  have u := w8.2 m _ hm
  obtain ⟨⟨p1, p2, p3, p4⟩, f1, f2, f3⟩ := hf
  obtain ⟨⟨q1, q2, q3, q4⟩, g1, g2, g3⟩ := hg
  have x1 : ix (i32 (k : Int)) 12 := ix_i (by omega) (by omega) (by decide)
  have y1 : ix (i32 (m : Int)) 12 := ix_i (by omega) (by omega) (by decide)
  have n1 := nat_i k (by omega)
  have n2 := nat_i m (by omega)
  have m1 := (mx_b f1 g1).1
  have m2 := (mx_b f2 g2).2
  have m5 := mul_b (M := 23760) (N := 23760) (show -23760 ≤ lnC f ∧ lnC f ≤ 23760 by omega) (show -23760 ≤ lnC g ∧ lnC g ≤ 23760 by omega)
  have m6 := Int.mul_pos p3 q3
  have c32 : B64 (lnC f * lnC g) := ⟨by omega, by omega⟩
  have key : ∃ h', fX1_addLine 67 (i32 (mxI (lnF f) (lnF g))) (i32 (mnI (lnT f) (lnT g))) (i64 (lnA f * lnC g + lnA g * lnC f)) (i64 (lnB f * lnC g + lnB g * lnC f)) (i64 (lnC f * lnC g)) h = some ((), h') ∧ CLl h' 67 (ll ++ (suL f g).toList) ∧ Fr (AY 67) h h' := by
    unfold suL
    by_cases c : mxI (lnF f) (lnF g) ≤ mnI (lnT f) (lnT g)
    · rw [if_pos c]
      exact c_addLine l7 w7 hl (by decide) ⟨by omega, by omega⟩ ⟨by omega, by omega⟩ c m6 c32
    · rw [if_neg c]
      refine ⟨h, c_addLine_no l7 w7 hl (by decide) ⟨by omega, by omega⟩ ⟨by omega, by omega⟩ c m6 c32, ?_, Fr.rf h⟩
      show CLl h 67 (ll ++ [])
      rw [List.append_nil]; exact w7
  obtain ⟨h', E, A, F⟩ := key
  refine ⟨h', ?_, A, F⟩
  obtain ⟨a1, a2, a3, a4, a5, a6, a7, a8⟩ := l4
  obtain ⟨b1, b2, b3, b4, b5, b6, b7, b8⟩ := l8
  unfold fX1_addSum
  rw [if_pos a1, a2 1 (by decide) (by decide), if_pos a3.1, a3.2, if_pos x1, if_pos b1, b2 1 (by decide) (by decide), if_pos b3.1, b3.2, if_pos y1]
  simp only [n1, n2]
  rw [v.1, u.1, c_maxI ⟨by omega, by omega⟩ ⟨by omega, by omega⟩, bd_some, a2 2 (by decide) (by decide), if_pos a4.1, a4.2, if_pos x1, b2 2 (by decide) (by decide), if_pos b4.1, b4.2, if_pos y1, v.2.1, u.2.1, c_minI ⟨by omega, by omega⟩ ⟨by omega, by omega⟩, bd_some, a2 3 (by decide) (by decide), if_pos a5.1, a5.2, if_pos x1, b2 5 (by decide) (by decide), if_pos b7.1, b7.2, if_pos y1, b2 3 (by decide) (by decide), if_pos b5.1, b5.2, if_pos y1, a2 5 (by decide) (by decide), if_pos a7.1, a7.2, if_pos x1, lt_def, a2 4 (by decide) (by decide), if_pos a6.1, a6.2, if_pos x1, b2 4 (by decide) (by decide), if_pos b6.1, b6.2, if_pos y1, lt_def, if_pos l7.1, v.2.2.1, v.2.2.2.1, v.2.2.2.2, u.2.2.1, u.2.2.2.1, u.2.2.2.2]
  simp only [i64_mul, i64_add]
  rw [E, bd_some]
theorem c_su2 {k : Nat} {f : Ln} (hs : gs.length ≤ 12) (hb : ∀ l ∈ gs, LnB l) (hk : fs[k]? = some f) (k12 : k < 12) (hf : LnB f) (r29 : Nat → Int32 → xH → Option (Int32 × xH)) : ∀ (d j m : Nat) (h : xH) (ll : List Ln), j + d = gs.length → d < m → ShI h cap lst → CLl h 74 fs → CLl h 81 gs → CLl h 67 ll → ll.length + d ≤ 288 → ∃ h', fX6_sum_l43 r29 m 2 (i32 (k : Int)) (i32 (j : Int)) h = r29 2 (i32 ((k + 1 : Nat) : Int)) h' ∧ CLl h' 67 (ll ++ (gs.drop j).filterMap (suL f)) ∧ Fr (AY 67) h h' := by
  intro d
  induction d with
  | zero =>
    intro j m h ll hj hm I w4 w8 w7 hl
    obtain ⟨m, rfl⟩ : ∃ k, m = k + 1 := ⟨m - 1, by omega⟩
    have co := I.1
    have c0 := w8.1
    refine ⟨h, ?_, by rw [List.drop_eq_nil_of_le (by omega)]; simpa using w7, Fr.rf h⟩
    show fX6_sum_b43 _ _ 2 _ _ h = _
    unfold fX6_sum_b43
    rw [if_pos co.k2, co.r2_10, if_pos co.lo81.1, c0, if_pos ((i32_le ⟨by omega, by omega⟩ ⟨by omega, by omega⟩).mpr (by omega)), lt_def, one32, i32_add, kp1]
  | succ d ih =>
    intro j m h ll hj hm I w4 w8 w7 hl
    obtain ⟨m, rfl⟩ : ∃ k, m = k + 1 := ⟨m - 1, by omega⟩
    have co := I.1
    have c0 := w8.1
    have hjl : j < gs.length := by omega
    have hg : gs[j]? = some gs[j] := List.getElem?_eq_getElem hjl
    obtain ⟨h1, E1, w1, F1⟩ := c_addSum (k := k) (m := j) co.lo74 co.lo81 co.lo67 w4 w8 w7 (by omega) hk hg k12 (by omega) hf (hb _ (List.getElem_mem _))
    have I1 := I.ay F1
    obtain ⟨h2, E2, w2, F2⟩ := ih (j + 1) m h1 _ (by omega) (by omega) I1 (w4.fr F1 (fun r c z y => by unfold AY at z y; omega)) (w8.fr F1 (fun r c z y => by unfold AY at z y; omega)) w1 (by
      rw [List.length_append]
      have := tl1 (suL f gs[j])
      omega)
    refine ⟨h2, ?_, ?_, F1.tr F2⟩
    · show fX6_sum_b43 _ _ 2 _ _ h = _
      unfold fX6_sum_b43
      rw [if_pos co.k2, co.r2_10, if_pos co.lo81.1, c0, if_neg (fun z => by have := (i32_le ⟨by omega, by omega⟩ ⟨by omega, by omega⟩).mp z; omega), co.r2_8, if_pos co.lo67.1, co.r2_9, E1, bd_some, lt_def, one32, i32_add, kp1]
      exact E2
    · rw [List.drop_eq_getElem_cons hjl, fmC]
      rw [List.append_assoc] at w2
      exact w2
theorem c_su1 (hsf : fs.length ≤ 12) (hbf : ∀ l ∈ fs, LnB l) (hs : gs.length ≤ 12) (hb : ∀ l ∈ gs, LnB l) : ∀ (d k m : Nat) (h : xH) (ll : List Ln), k + d = fs.length → d < m → ShI h cap lst → CLl h 74 fs → CLl h 81 gs → CLl h 67 ll → ll.length + 12 * d ≤ 288 → ∃ h', fX6_sum_l29 m 2 (i32 (k : Int)) h = bd (fX6_ontoPaper 2 3 h') (fun w5 g3 => some (w5, g3)) ∧ CLl h' 67 (ll ++ suM (fs.drop k) gs) ∧ Fr (AY 67) h h' := by
  intro d
  induction d with
  | zero =>
    intro k m h ll hk hm I w4 w8 w7 hl
    obtain ⟨m, rfl⟩ : ∃ k, m = k + 1 := ⟨m - 1, by omega⟩
    have co := I.1
    have c0 := w4.1
    refine ⟨h, ?_, by rw [List.drop_eq_nil_of_le (by omega)]; simpa [suM] using w7, Fr.rf h⟩
    show fX6_sum_b29 _ 2 _ h = _
    unfold fX6_sum_b29
    rw [if_pos co.k2, co.r2_9, if_pos co.lo74.1, c0, if_pos ((i32_le ⟨by omega, by omega⟩ ⟨by omega, by omega⟩).mpr (by omega))]
  | succ d ih =>
    intro k m h ll hk hm I w4 w8 w7 hl
    obtain ⟨m, rfl⟩ : ∃ k, m = k + 1 := ⟨m - 1, by omega⟩
    have co := I.1
    have c0 := w4.1
    have hkl : k < fs.length := by omega
    have hg : fs[k]? = some fs[k] := List.getElem?_eq_getElem hkl
    obtain ⟨h1, E1, w1, F1⟩ := c_su2 (k := k) hs hb hg (by omega) (hbf _ (List.getElem_mem _)) (fX6_sum_l29 m) gs.length 0 FU h ll (by omega) (by rw [FU_eq]; omega) I w4 w8 w7 (by omega)
    rw [List.drop_zero] at w1
    have I1 := I.ay F1
    obtain ⟨h2, E2, w2, F2⟩ := ih (k + 1) m h1 _ (by omega) (by omega) I1 (w4.fr F1 (fun r c z y => by unfold AY at z y; omega)) (w8.fr F1 (fun r c z y => by unfold AY at z y; omega)) w1 (by
      rw [List.length_append]
      have := List.length_filterMap_le (suL fs[k]) gs
      omega)
    refine ⟨h2, ?_, ?_, F1.tr F2⟩
    · show fX6_sum_b29 _ 2 _ h = _
      have E1' : fX6_sum_l43 (fX6_sum_l29 m) FU 2 (i32 (k : Int)) 0 h = fX6_sum_l29 m 2 (i32 ((k + 1 : Nat) : Int)) h1 := E1
      unfold fX6_sum_b29
      rw [if_pos co.k2, co.r2_9, if_pos co.lo74.1, c0, if_neg (fun z => by have := (i32_le ⟨by omega, by omega⟩ ⟨by omega, by omega⟩).mp z; omega), lt_def, E1']
      exact E2
    · unfold suM at w2 ⊢
      rw [List.drop_eq_getElem_cons hkl, List.flatMap_cons]
      rw [List.append_assoc] at w2
      exact w2
theorem c_sum_ok {n m : Nat} (hn : n < 6) (hm : m < 6) (K : AOk S) (C : CSt h S) : ∃ g ks, fX6_sum 2 (i32 (n : Int)) (i32 (m : Int)) h = some (i32 (ks.length : Int), g) ∧ PaperIs (lnn (suM ((spL (aC S n)).map lby) ((spL (aC S m)).map lby))) (suM ((spL (aC S n)).map lby) ((spL (aC S m)).map lby)).length ks ∧ CSt g (actA S 3 6 ks) ∧ Out h g := by
  obtain ⟨cap, lst, c1, c2, c3, c4, c5⟩ := C
  have co := c1.1.1
  have Cn := K.1.1 n hn
  have Cm := K.1.1 m hm
  have s1 := can_ln Cn
  have s2 := can_ln Cm
  obtain ⟨h1, E1, w4, w8, w7, F1⟩ := c_loadPair (n := n) (m := m) c1.1 hn hm (by rw [c2 n (by omega)]; exact Cn) (by rw [c2 m (by omega)]; exact Cm)
  rw [c2 n (by omega)] at w4
  rw [c2 m (by omega)] at w8
  have I1 := c1.1.alp F1
  obtain ⟨h2, E2, w2, F2⟩ := c_su1 s1.1 s1.2 s2.1 s2.2 ((spL (aC S n)).map lby).length 0 FU h1 [] (by omega) (by rw [FU_eq]; have := s1.1; omega) I1 w4 w8 w7 (by have := s1.1; show 0 + 12 * ((spL (aC S n)).map lby).length ≤ 288; omega)
  rw [List.nil_append, List.drop_zero] at w2
  obtain ⟨g, ks, E3, P3, C3, O3⟩ := c_ontoG (act := 3) (su_co Cn Cm) c1 c2 c3 c5 (F1.tr (F2.mono (fun r k z => Or.inl (Or.inr z)))) (fun r k z => alp_ok z) w2
  refine ⟨g, ks, ?_, P3, C3, O3⟩
  have E3' : fX6_ontoPaper 2 3 h2 = some (i32 (ks.length : Int), g) := E3
  have E2' : fX6_sum_l29 FU 2 0 h1 = bd (fX6_ontoPaper 2 3 h2) (fun w5 g3 => some (w5, g3)) := E2
  have d1 : decide (0 ≤ (n : Int) ∧ (n : Int) ≤ 5) = true := decide_eq_true (by omega)
  have d2 : decide (0 ≤ (m : Int) ∧ (m : Int) ≤ 5) = true := decide_eq_true (by omega)
  unfold fX6_sum
  rw [c_isStore ⟨by omega, by omega⟩, bd_some, d1, if_neg bzt0, c_isStore ⟨by omega, by omega⟩, bd_some, d2, if_neg bzt0, if_pos co.k2, E1, bd_some, lt_def, E2', E3', bd_some]
end SA
