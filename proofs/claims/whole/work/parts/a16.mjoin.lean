/-! CALLS: join, the reference, the call -/
theorem i48 : (48 : Int32) = i32 48 := rfl
section JR
variable {h : xH} {S : Ast} {fs gs : List Spn}
theorem m_lb (q : Mo h) {ll : List Ln} (w : Lnl h ll) (hl : ll.length < 700) {p : Spn} (hp : SpB p) : ∃ h', fX7_lineBy 220 (i64 p.1) (i64 p.2.1) (i64 p.2.2.1) (i64 p.2.2.2) h = some ((), h') ∧ Lnl h' (ll ++ [lby p]) ∧ Fr AI h h' := by
  obtain ⟨x1, y1, x2, y2⟩ := p
  obtain ⟨b1, b2, b3, b4, b5⟩ := hp
  have b1 : -11880 ≤ x1 ∧ x1 ≤ 11880 := b1
  have b3 : -11880 ≤ x2 ∧ x2 ≤ 11880 := b3
  exact m_lineBy q w hl ⟨by omega, by omega⟩ ⟨by omega, by omega⟩
theorem m_joinTwo {k m : Nat} {p q : Spn} {ll : List Ln} (M : Mo h) (E0 : Ens h 0 fs) (E1 : Ens h 48 gs) (w : Lnl h ll) (hl : ll.length + 2 ≤ 700) (hk : fs[k]? = some p) (hm : gs[m]? = some q) (k12 : k < 12) (m12 : m < 12) (hp : SpN p) (hq : SpN q) : ∃ h', fX7_joinTwo 220 (i32 (4 * (k : Int))) (i32 (48 + 4 * (m : Int))) h = some ((), h') ∧ Lnl h' (ll ++ (joS p q).map lby) ∧ Fr AI h h' := by
  obtain ⟨v1, v2, v3, v4⟩ := E0 k p hk
  obtain ⟨u1, u2, u3, u4⟩ := E1 m q hm
  have sb := jo_sb hp hq
  obtain ⟨p1, p2, p3, p4, p5⟩ := hp
  obtain ⟨q1, q2, q3, q4, q5⟩ := hq
  have p5' : p.1 ≤ p.2.2.1 ∧ (p.1 = p.2.2.1 → p.2.1 = p.2.2.2) := p5
  have q5' : q.1 ≤ q.2.2.1 ∧ (q.1 = q.2.2.1 → q.2.1 = q.2.2.2) := q5
  have e0 : (i32 (4 * (k : Int))).toNatClampNeg = 0 + 4 * k := by rw [i32_nat (by omega) (by omega)]; omega
  have e1 : (i32 (4 * (k : Int) + 1)).toNatClampNeg = 0 + 4 * k + 1 := by rw [i32_nat (by omega) (by omega)]; omega
  have e2 : (i32 (4 * (k : Int) + 2)).toNatClampNeg = 0 + 4 * k + 2 := by rw [i32_nat (by omega) (by omega)]; omega
  have e3 : (i32 (4 * (k : Int) + 3)).toNatClampNeg = 0 + 4 * k + 3 := by rw [i32_nat (by omega) (by omega)]; omega
  have d0 : (i32 (48 + 4 * (m : Int))).toNatClampNeg = 48 + 4 * m := by rw [i32_nat (by omega) (by omega)]; omega
  have d1 : (i32 (48 + 4 * (m : Int) + 1)).toNatClampNeg = 48 + 4 * m + 1 := by rw [i32_nat (by omega) (by omega)]; omega
  have d2 : (i32 (48 + 4 * (m : Int) + 2)).toNatClampNeg = 48 + 4 * m + 2 := by rw [i32_nat (by omega) (by omega)]; omega
  have d3 : (i32 (48 + 4 * (m : Int) + 3)).toNatClampNeg = 48 + 4 * m + 3 := by rw [i32_nat (by omega) (by omega)]; omega
  have x0 : ix (i32 (4 * (k : Int))) 96 := ix_i (by omega) (by omega) (by decide)
  have x1 : ix (i32 (4 * (k : Int) + 1)) 96 := ix_i (by omega) (by omega) (by decide)
  have x2 : ix (i32 (4 * (k : Int) + 2)) 96 := ix_i (by omega) (by omega) (by decide)
  have x3 : ix (i32 (4 * (k : Int) + 3)) 96 := ix_i (by omega) (by omega) (by decide)
  have y0 : ix (i32 (48 + 4 * (m : Int))) 96 := ix_i (by omega) (by omega) (by decide)
  have y1 : ix (i32 (48 + 4 * (m : Int) + 1)) 96 := ix_i (by omega) (by omega) (by decide)
  have y2 : ix (i32 (48 + 4 * (m : Int) + 2)) 96 := ix_i (by omega) (by omega) (by decide)
  have y3 : ix (i32 (48 + 4 * (m : Int) + 3)) 96 := ix_i (by omega) (by omega) (by decide)
  have B0 : B64 0 := ⟨by decide, by decide⟩
  have Ba : B64 (p.2.2.1 - p.1) := ⟨by omega, by omega⟩
  have Bb : B64 (q.2.2.1 - q.1) := ⟨by omega, by omega⟩
  have mm1 := mul_b (M := 11880) (N := 11880) (show -11880 ≤ p.2.2.2 - p.2.1 ∧ p.2.2.2 - p.2.1 ≤ 11880 by omega) (show -11880 ≤ q.2.2.1 - q.1 ∧ q.2.2.1 - q.1 ≤ 11880 by omega)
  have mm2 := mul_b (M := 11880) (N := 11880) (show -11880 ≤ q.2.2.2 - q.2.1 ∧ q.2.2.2 - q.2.1 ≤ 11880 by omega) (show -11880 ≤ p.2.2.1 - p.1 ∧ p.2.2.1 - p.1 ≤ 11880 by omega)
  have Bm1 : B64 ((p.2.2.2 - p.2.1) * (q.2.2.1 - q.1)) := ⟨by omega, by omega⟩
  have Bm2 : B64 ((q.2.2.2 - q.2.1) * (p.2.2.1 - p.1)) := ⟨by omega, by omega⟩
  have z1 : B32 p.1 := ⟨by omega, by omega⟩
  have z2 : B32 p.2.1 := ⟨by omega, by omega⟩
  have z3 : B32 q.1 := ⟨by omega, by omega⟩
  have z4 : B32 q.2.1 := ⟨by omega, by omega⟩
  have z5 : B32 (p.2.2.1 - p.1) := ⟨by omega, by omega⟩
  have z6 : B32 (p.2.2.2 - p.2.1) := ⟨by omega, by omega⟩
  have z7 : B32 (q.2.2.1 - q.1) := ⟨by omega, by omega⟩
  have z8 : B32 (q.2.2.2 - q.2.1) := ⟨by omega, by omega⟩
  have ex : p.1 + q.1 + (p.2.2.1 - p.1) + (q.2.2.1 - q.1) = p.2.2.1 + q.2.2.1 := by omega
  have ey : p.2.1 + q.2.1 + (p.2.2.2 - p.2.1) + (q.2.2.2 - q.2.1) = p.2.2.2 + q.2.2.2 := by omega
  have start : fX7_joinTwo 220 (i32 (4 * (k : Int))) (i32 (48 + 4 * (m : Int))) h = (if lg_cmp (i64 (p.2.2.1 - p.1)) (i64 0) = 0 then fX7_joinTwo_b127 220 (i64 (p.1 + q.1)) (i64 (p.2.1 + q.2.1)) (i64 (p.2.2.1 - p.1)) (i64 (p.2.2.2 - p.2.1)) (i64 (q.2.2.1 - q.1)) (i64 (q.2.2.2 - q.2.1)) h else (if lg_cmp (i64 (q.2.2.1 - q.1)) (i64 0) = 0 then fX7_joinTwo_b127 220 (i64 (p.1 + q.1)) (i64 (p.2.1 + q.2.1)) (i64 (p.2.2.1 - p.1)) (i64 (p.2.2.2 - p.2.1)) (i64 (q.2.2.1 - q.1)) (i64 (q.2.2.2 - q.2.1)) h else (if 0 < lg_cmp (i64 ((p.2.2.2 - p.2.1) * (q.2.2.1 - q.1))) (i64 ((q.2.2.2 - q.2.1) * (p.2.2.1 - p.1))) then fX7_joinTwo_b169 0 220 (i64 (p.1 + q.1)) (i64 (p.2.1 + q.2.1)) (i64 (p.2.2.1 - p.1)) (i64 (p.2.2.2 - p.2.1)) (i64 (q.2.2.1 - q.1)) (i64 (q.2.2.2 - q.2.1)) h else fX7_joinTwo_b169 1 220 (i64 (p.1 + q.1)) (i64 (p.2.1 + q.2.1)) (i64 (p.2.2.1 - p.1)) (i64 (p.2.2.2 - p.2.1)) (i64 (q.2.2.1 - q.1)) (i64 (q.2.2.2 - q.2.1)) h))) := by
    unfold fX7_joinTwo
    simp only [lt_def, M.k220, M.r25, M.k240, M.l240, one32, two32, thr32, i32_add, if_pos x0, if_pos x1, if_pos x2, if_pos x3, if_pos y0, if_pos y1, if_pos y2, if_pos y3, e0, e1, e2, e3, d0, d1, d2, d3, v1, v2, v3, v4, u1, u2, u3, u4, i32_sub, i64_of32 z1, i64_of32 z2, i64_of32 z3, i64_of32 z4, i64_of32 z5, i64_of32 z6, i64_of32 z7, i64_of32 z8, i64_add, i64_mul, z64, reduceIte]
  have one : (p.1 = p.2.2.1 ∨ q.1 = q.2.2.1) → ∃ h', fX7_joinTwo_b127 220 (i64 (p.1 + q.1)) (i64 (p.2.1 + q.2.1)) (i64 (p.2.2.1 - p.1)) (i64 (p.2.2.2 - p.2.1)) (i64 (q.2.2.1 - q.1)) (i64 (q.2.2.2 - q.2.1)) h = some ((), h') ∧ Lnl h' (ll ++ (joS p q).map lby) ∧ Fr AI h h' := by
    intro c
    have es : joS p q = [(p.1 + q.1, p.2.1 + q.2.1, p.2.2.1 + q.2.2.1, p.2.2.2 + q.2.2.2)] := if_pos c
    rw [es] at sb
    obtain ⟨h1, L1, A1, F1⟩ := m_lb M w (by omega) (sb _ List.mem_cons_self)
    refine ⟨h1, ?_, by rw [es]; exact A1, F1⟩
    have L1' : fX7_lineBy 220 (i64 (p.1 + q.1)) (i64 (p.2.1 + q.2.1)) (i64 (p.2.2.1 + q.2.2.1)) (i64 (p.2.2.2 + q.2.2.2)) h = some ((), h1) := L1
    unfold fX7_joinTwo_b127
    rw [if_pos M.k220]
    simp only [i64_add]
    rw [ex, ey, L1', bd_some]
  rw [start]
  by_cases ca : p.1 = p.2.2.1
  · rw [if_pos ((lz_eq Ba B0).mpr (by omega))]
    exact one (Or.inl ca)
  · rw [if_neg (fun z => by have := (lz_eq Ba B0).mp z; omega)]
    by_cases cb : q.1 = q.2.2.1
    · rw [if_pos ((lz_eq Bb B0).mpr (by omega))]
      exact one (Or.inr cb)
    · rw [if_neg (fun z => by have := (lz_eq Bb B0).mp z; omega)]
      have nc : ¬ (p.1 = p.2.2.1 ∨ q.1 = q.2.2.1) := by omega
      by_cases cc : (p.2.2.2 - p.2.1) * (q.2.2.1 - q.1) ≤ (q.2.2.2 - q.2.1) * (p.2.2.1 - p.1)
      · rw [if_neg (fun z => by have := (lz_gt Bm1 Bm2).mp z; omega)]
        have es : joS p q = [(p.1 + q.1, p.2.1 + q.2.1, p.2.2.1 + q.1, p.2.2.2 + q.2.1), (p.2.2.1 + q.1, p.2.2.2 + q.2.1, p.2.2.1 + q.2.2.1, p.2.2.2 + q.2.2.2)] := (if_neg nc).trans (if_pos cc)
        rw [es] at sb
        obtain ⟨h1, L1, A1, F1⟩ := m_lb M w (by omega) (sb _ List.mem_cons_self)
        obtain ⟨h2, L2, A2, F2⟩ := m_lb (F1.mo M) A1 (by rw [List.length_append]; show ll.length + 1 < 700; omega) (sb _ (List.mem_cons_of_mem _ List.mem_cons_self))
        rw [List.append_assoc] at A2
        refine ⟨h2, ?_, by rw [es]; exact A2, F1.tr F2⟩
        have L1' : fX7_lineBy 220 (i64 (p.1 + q.1)) (i64 (p.2.1 + q.2.1)) (i64 (p.2.2.1 + q.1)) (i64 (p.2.2.2 + q.2.1)) h = some ((), h1) := L1
        have L2' : fX7_lineBy 220 (i64 (p.2.2.1 + q.1)) (i64 (p.2.2.2 + q.2.1)) (i64 (p.2.2.1 + q.2.2.1)) (i64 (p.2.2.2 + q.2.2.2)) h1 = some ((), h2) := L2
        unfold fX7_joinTwo_b169 fX7_joinTwo_b184 fX7_joinTwo_b201
        rw [if_neg (by decide), lt_def, if_neg (by decide), lt_def, if_pos M.k220]
        simp only [i64_add]
        rw [ex, ey, show p.1 + q.1 + (p.2.2.1 - p.1) = p.2.2.1 + q.1 by omega, show p.2.1 + q.2.1 + (p.2.2.2 - p.2.1) = p.2.2.2 + q.2.1 by omega, L1', bd_some, L2', bd_some]
      · rw [if_pos ((lz_gt Bm1 Bm2).mpr (by omega))]
        have es : joS p q = [(p.1 + q.1, p.2.1 + q.2.1, p.1 + q.2.2.1, p.2.1 + q.2.2.2), (p.1 + q.2.2.1, p.2.1 + q.2.2.2, p.2.2.1 + q.2.2.1, p.2.2.2 + q.2.2.2)] := (if_neg nc).trans (if_neg cc)
        rw [es] at sb
        obtain ⟨h1, L1, A1, F1⟩ := m_lb M w (by omega) (sb _ List.mem_cons_self)
        obtain ⟨h2, L2, A2, F2⟩ := m_lb (F1.mo M) A1 (by rw [List.length_append]; show ll.length + 1 < 700; omega) (sb _ (List.mem_cons_of_mem _ List.mem_cons_self))
        rw [List.append_assoc] at A2
        refine ⟨h2, ?_, by rw [es]; exact A2, F1.tr F2⟩
        have L1' : fX7_lineBy 220 (i64 (p.1 + q.1)) (i64 (p.2.1 + q.2.1)) (i64 (p.1 + q.2.2.1)) (i64 (p.2.1 + q.2.2.2)) h = some ((), h1) := L1
        have L2' : fX7_lineBy 220 (i64 (p.1 + q.2.2.1)) (i64 (p.2.1 + q.2.2.2)) (i64 (p.2.2.1 + q.2.2.1)) (i64 (p.2.2.2 + q.2.2.2)) h1 = some ((), h2) := L2
        unfold fX7_joinTwo_b169 fX7_joinTwo_b184 fX7_joinTwo_b201
        rw [if_pos rfl, lt_def, if_pos rfl, lt_def, if_pos M.k220]
        simp only [i64_add]
        rw [ex, ey, show p.1 + q.1 + (q.2.2.1 - q.1) = p.1 + q.2.2.1 by omega, show p.2.1 + q.2.1 + (q.2.2.2 - q.2.1) = p.2.1 + q.2.2.2 by omega, L1', bd_some, L2', bd_some]
theorem m_jo2 {k : Nat} {f : Spn} {N : Int32} (hs : gs.length ≤ 12) (hb : ∀ l ∈ gs, SpN l) (hk : fs[k]? = some f) (k12 : k < 12) (hf : SpN f) (r52 : Nat → Int32 → Int32 → xH → Option (Int32 × xH)) : ∀ (d j m : Nat) (h : xH) (ll : List Ln), j + d = gs.length → d < m → Mo h → Ens h 0 fs → Ens h 48 gs → hI h 220 26 = i32 (gs.length : Int) → Lnl h ll → ll.length + 2 * d ≤ 700 → ∃ h', fX7_join_l61 r52 m 220 N (i32 (k : Int)) (i32 (j : Int)) h = r52 220 N (i32 ((k + 1 : Nat) : Int)) h' ∧ Lnl h' (ll ++ ((gs.drop j).flatMap (joS f)).map lby) ∧ Fr AI h h' := by
  intro d
  induction d with
  | zero =>
    intro j m h ll hj hm M E0 E1 c w hl
    obtain ⟨m, rfl⟩ : ∃ k, m = k + 1 := ⟨m - 1, by omega⟩
    refine ⟨h, ?_, by rw [List.drop_eq_nil_of_le (by omega)]; simpa using w, Fr.rf h⟩
    show fX7_join_b61 _ _ 220 _ _ _ h = _
    unfold fX7_join_b61
    rw [if_pos M.k220, c, if_pos ((i32_le ⟨by omega, by omega⟩ ⟨by omega, by omega⟩).mpr (by omega)), lt_def, one32, i32_add, kp1]
  | succ d ih =>
    intro j m h ll hj hm M E0 E1 c w hl
    obtain ⟨m, rfl⟩ : ∃ k, m = k + 1 := ⟨m - 1, by omega⟩
    have hjl : j < gs.length := by omega
    have hg : gs[j]? = some gs[j] := List.getElem?_eq_getElem hjl
    obtain ⟨h1, L1, w1, F1⟩ := m_joinTwo (k := k) (m := j) M E0 E1 w (by omega) hk hg k12 (by omega) hf (hb _ (List.getElem_mem _))
    obtain ⟨h2, L2, w2, F2⟩ := ih (j + 1) m h1 _ (by omega) (by omega) (F1.mo M) (E0.fr F1 AI_en) (E1.fr F1 AI_en) (by rw [(F1.2.2 220 26 (by unfold AI; omega)).1]; exact c) w1 (by
      rw [List.length_append]
      have := jo_2 f gs[j]
      rw [List.length_map]
      omega)
    refine ⟨h2, ?_, ?_, F1.tr F2⟩
    · show fX7_join_b61 _ _ 220 _ _ _ h = _
      unfold fX7_join_b61
      rw [if_pos M.k220, c, if_neg (fun z => by have := (i32_le ⟨by omega, by omega⟩ ⟨by omega, by omega⟩).mp z; omega), fou32, i48, i32_mul, i32_mul, i32_add, L1, bd_some, lt_def, one32, i32_add, kp1]
      exact L2
    · rw [List.drop_eq_getElem_cons hjl, List.flatMap_cons, List.map_append]
      rw [List.append_assoc] at w2
      exact w2
theorem m_jo1 (hsf : fs.length ≤ 12) (hbf : ∀ l ∈ fs, SpN l) (hs : gs.length ≤ 12) (hb : ∀ l ∈ gs, SpN l) : ∀ (d k m : Nat) (h : xH) (ll : List Ln), k + d = fs.length → d < m → Mo h → Ens h 0 fs → Ens h 48 gs → hI h 220 26 = i32 (gs.length : Int) → Lnl h ll → ll.length + 24 * d ≤ 700 → ∃ h', fX7_join_l52 m 220 (i32 (fs.length : Int)) (i32 (k : Int)) h = bd (fX7_onto 220 5 h') (fun w4 g2 => some (w4, g2)) ∧ Lnl h' (ll ++ (joM (fs.drop k) gs).map lby) ∧ Fr AI h h' := by
  intro d
  induction d with
  | zero =>
    intro k m h ll hk hm M E0 E1 c w hl
    obtain ⟨m, rfl⟩ : ∃ k, m = k + 1 := ⟨m - 1, by omega⟩
    refine ⟨h, ?_, by rw [List.drop_eq_nil_of_le (by omega)]; simpa [joM] using w, Fr.rf h⟩
    show fX7_join_b52 _ 220 _ _ h = _
    unfold fX7_join_b52
    rw [if_pos ((i32_le ⟨by omega, by omega⟩ ⟨by omega, by omega⟩).mpr (by omega)), if_pos M.k220]
  | succ d ih =>
    intro k m h ll hk hm M E0 E1 c w hl
    obtain ⟨m, rfl⟩ : ∃ k, m = k + 1 := ⟨m - 1, by omega⟩
    have hkl : k < fs.length := by omega
    have hg : fs[k]? = some fs[k] := List.getElem?_eq_getElem hkl
    obtain ⟨h1, L1, w1, F1⟩ := m_jo2 (k := k) (N := i32 (fs.length : Int)) hs hb hg (by omega) (hbf _ (List.getElem_mem _)) (fX7_join_l52 m) gs.length 0 FU h ll (by omega) (by rw [FU_eq]; omega) M E0 E1 c w (by omega)
    rw [List.drop_zero] at w1
    obtain ⟨h2, L2, w2, F2⟩ := ih (k + 1) m h1 _ (by omega) (by omega) (F1.mo M) (E0.fr F1 AI_en) (E1.fr F1 AI_en) (by rw [(F1.2.2 220 26 (by unfold AI; omega)).1]; exact c) w1 (by
      rw [List.length_append]
      have := fm_le12 (c := 2) (f := joS fs[k]) gs (fun q _ => jo_2 fs[k] q)
      rw [List.length_map]
      omega)
    refine ⟨h2, ?_, ?_, F1.tr F2⟩
    · show fX7_join_b52 _ 220 _ _ h = _
      have L1' : fX7_join_l61 (fX7_join_l52 m) FU 220 (i32 (fs.length : Int)) (i32 (k : Int)) 0 h = fX7_join_l52 m 220 (i32 (fs.length : Int)) (i32 ((k + 1 : Nat) : Int)) h1 := L1
      unfold fX7_join_b52
      rw [if_neg (fun z => by have := (i32_le ⟨by omega, by omega⟩ ⟨by omega, by omega⟩).mp z; omega), lt_def, L1']
      exact L2
    · unfold joM at w2 ⊢
      rw [List.drop_eq_getElem_cons hkl, List.flatMap_cons, List.map_append]
      rw [List.append_assoc] at w2
      exact w2
theorem Cal_join (a b : Int32) : Cal (fX6_join 2 a b) (fX7_join 220 a b) := by
  obtain ⟨j, bi, rfl⟩ := i32_ex a
  obtain ⟨i, bj, rfl⟩ := i32_ex b
  intro h S K C M
  have co := C.co
  by_cases h3 : 0 ≤ j ∧ j ≤ 5
  · by_cases h4 : 0 ≤ i ∧ i ≤ 5
    · obtain ⟨n, rfl⟩ : ∃ n : Nat, j = n := ⟨j.toNat, by omega⟩
      obtain ⟨m, rfl⟩ : ∃ n : Nat, i = n := ⟨i.toNat, by omega⟩
      have hn : n < 6 := by omega
      have hm : m < 6 := by omega
      have Cn := K.1.1 n hn
      have Cm := K.1.1 m hm
      have s1 := (can_sb Cn).1
      have s2 := (can_sb Cm).1
      obtain ⟨g3, ks, E3, P3, C3, O3⟩ := c_join_ok hn hm K C
      have M3 := M.out O3
      have f1 : Fr (fun r c => r = 220 ∧ c = 0) g3 (sI g3 220 0 0) := Fr.I _ ⟨rfl, rfl⟩
      have M4 := M3.sm K f1 (fun r c z => by omega)
      obtain ⟨g5, E5, N5, L5, F5⟩ := m_laySpans (a := 0) (Or.inl rfl) hn Cn.1.1 Cn.1.2.2 M4.1.1 (M4.1.2.1 n hn)
      have M5 := M4.sm K F5 (fun r c z => by unfold AE at z; omega)
      obtain ⟨g6, E6, N6, L6, F6⟩ := m_laySpans (a := 48) (Or.inr rfl) hm Cm.1.1 Cm.1.2.2 M5.1.1 (M5.1.2.1 m hm)
      have M6 := M5.sm K F6 (fun r c z => by unfold AE at z; omega)
      have N56 : Ens g6 0 (spL (aC S n)) := by
        intro t p e
        have tl : t < 12 := by have := (List.getElem?_eq_some_iff.mp e).1; omega
        rw [(F6.2.2 240 _ (by unfold AE; omega)).1, (F6.2.2 240 _ (by unfold AE; omega)).1, (F6.2.2 240 _ (by unfold AE; omega)).1, (F6.2.2 240 _ (by unfold AE; omega)).1]
        exact N5 t p e
      have f7 : Fr (fun r c => r = 220 ∧ c = 19) g6 (sI g6 220 19 0) := Fr.I _ ⟨rfl, rfl⟩
      have M7 := M6.sm K f7 (fun r c z => by omega)
      have w0 : Lnl (sI g6 220 19 0) [] := ⟨by rw [hI_sI, if_pos ⟨rfl, rfl⟩]; rfl, fun k l e => by rw [List.getElem?_nil] at e; cases e⟩
      obtain ⟨g8, E8, L8, F8⟩ := m_jo1 s1 (can_n Cn) s2 (can_n Cm) (spL (aC S n)).length 0 FU (sI g6 220 19 0) [] (by omega) (by rw [FU_eq]; omega) M7.1.1 (N56.fr f7 (fun k z => by omega)) (N6.fr f7 (fun k z => by omega)) (by rw [(f7.2.2 220 26 (by omega)).1]; exact L6) w0 (by show 0 + 24 * (spL (aC S n)).length ≤ 700; omega)
      rw [List.nil_append, List.drop_zero] at L8
      have M8 := M7.sm K F8 (fun r c z => by unfold AI at z; omega)
      have FF : Fr In220 g3 g8 := (((f1.mono (fun r c z => by unfold In220; omega)).tr (F5.mono (fun r c z => by unfold AE at z; unfold In220; omega))).tr (F6.mono (fun r c z => by unfold AE at z; unfold In220; omega))).tr ((f7.mono (fun r c z => by unfold In220; omega)).tr (F8.mono (fun r c z => by unfold AI at z; unfold In220; omega)))
      obtain ⟨g9, E9, K9, C9, M9⟩ := fin_ontoG (act := 5) (jm_lok Cn Cm) (lok_pab (jm_lok Cn Cm) (by decide) (by decide) P3) K P3 C3 FF M8 L8
      refine ⟨i32 (ks.length : Int), g3, g9, actA S 5 6 ks, E3, ?_, K9, C9, M9⟩
      have E9' : fX7_onto 220 5 g8 = some (i32 (ks.length : Int), g9) := E9
      have E8' : fX7_join_l52 FU 220 (i32 ((spL (aC S n)).length : Int)) 0 (sI g6 220 19 0) = bd (fX7_onto 220 5 g8) (fun w4 g2 => some (w4, g2)) := E8
      have E5' : fX7_laySpans 220 (i32 (n : Int)) 0 (sI g3 220 0 0) = some ((), g5) := E5
      have E6' : fX7_laySpans 220 (i32 (m : Int)) 48 g5 = some ((), g6) := E6
      unfold fX7_join
      rw [if_pos M3.1.1.k220, lt_def, m_isStore bi, bd_some, decide_eq_true h3, if_neg bzt0, m_isStore bj, bd_some, decide_eq_true h4, if_neg bzt0, E5', bd_some, lt_def, L5, E6', bd_some, lt_def, lt_def, E8', E9', bd_some]
    · refine ref_cal K C M (a := -2) (by decide) ?_ (fun g q => ?_)
      · unfold fX6_join fX6_join_b14
        rw [c_isStore bi, bd_some, decide_eq_true h3, if_neg bzt0, c_isStore bj, bd_some, decide_eq_false h4, if_pos bz_f, if_pos co.k2, m2_32]
      · have q0 : Mo (sI g 220 0 0) := (Fr.I (A := fun r _ => r = 220) _ rfl).mo q
        unfold fX7_join fX7_join_b19
        rw [if_pos q.k220, lt_def, m_isStore bi, bd_some, decide_eq_true h3, if_neg bzt0, m_isStore bj, bd_some, decide_eq_false h4, if_pos bz_f, if_pos q0.k220, m2_32]
  · refine ref_cal K C M (a := -2) (by decide) ?_ (fun g q => ?_)
    · unfold fX6_join fX6_join_b14
      rw [c_isStore bi, bd_some, decide_eq_false h3, if_pos bz_f, if_pos co.k2, m2_32]
    · have q0 : Mo (sI g 220 0 0) := (Fr.I (A := fun r _ => r = 220) _ rfl).mo q
      unfold fX7_join fX7_join_b19
      rw [if_pos q.k220, lt_def, m_isStore bi, bd_some, decide_eq_false h3, if_pos bz_f, if_pos q0.k220, m2_32]
end JR
