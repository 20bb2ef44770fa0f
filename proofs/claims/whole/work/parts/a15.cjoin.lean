/-! CALLS: join, the class -/
section JC
variable {h : xH} {S : Ast} {cap : Nat → Nat} {lst : Nat → List Kn} {fs gs : List Spn}
theorem lby_B {p : Spn} (w : SpW p) : lnB (lby p) = p.2.2.2 - p.2.1 := by
  by_cases c : p.1 = p.2.2.1
  · have e : lby p = (p.1, p.2.2.1, p.2.1, 0, 1) := if_pos c
    have := w.2 c
    rw [e]
    show (0 : Int) = _
    omega
  · have e : lby p = (p.1, p.2.2.1, p.2.1 * (p.2.2.1 - p.1) - (p.2.2.2 - p.2.1) * p.1, p.2.2.2 - p.2.1, p.2.2.1 - p.1) := if_neg c
    rw [e]; rfl
theorem lby_y (p : Spn) : lnA (lby p) + lnB (lby p) * lnF (lby p) = p.2.1 * lnC (lby p) := by
  by_cases c : p.1 = p.2.2.1
  · have e : lby p = (p.1, p.2.2.1, p.2.1, 0, 1) := if_pos c
    rw [e]
    show p.2.1 + 0 * p.1 = p.2.1 * 1
    rw [Int.zero_mul, Int.add_zero, Int.mul_one]
  · have e : lby p = (p.1, p.2.2.1, p.2.1 * (p.2.2.1 - p.1) - (p.2.2.2 - p.2.1) * p.1, p.2.2.2 - p.2.1, p.2.2.1 - p.1) := if_neg c
    rw [e]
    show p.2.1 * (p.2.2.1 - p.1) - (p.2.2.2 - p.2.1) * p.1 + (p.2.2.2 - p.2.1) * p.1 = p.2.1 * (p.2.2.1 - p.1)
    omega
theorem spn_b {p : Spn} (hp : SpN p) : SpB p := by
  obtain ⟨a1, a2, a3, a4, a5⟩ := hp
  exact ⟨by omega, by omega, by omega, by omega, a5.1⟩
theorem c_firstY {r M k : Nat} {p : Spn} {ll : List Spn} (l : Lo h r M) (hM : M ≤ 60000) (w : CLl h r (ll.map lby)) (hk : ll[k]? = some p) (kM : k < M) (hp : SpN p) : fX1_firstY r (i32 (k : Int)) h = some (i64 p.2.1, h) := by
  have e : (ll.map lby)[k]? = some (lby p) := by rw [List.getElem?_map, hk]; rfl
  have v := w.2 k _ e
  have b := lby_b (spn_b hp)
  obtain ⟨⟨q1, q2, q3, q4⟩, f1, f2, f3⟩ := b
  have x1 : ix (i32 (k : Int)) M := ix_i (by omega) (by omega) (by omega)
  have n1 := nat_i k (by omega)
  have Bc : B64 (lnC (lby p)) := ⟨by omega, by omega⟩
  have B0 : B64 0 := ⟨by decide, by decide⟩
  have m1 := mul_b (M := 23760) (N := 11880) q2 f1
  obtain ⟨a1, a2, a3, a4, a5, a6, a7, a8⟩ := l
  unfold fX1_firstY
  rw [if_pos a1, a2 5 (by decide) (by decide), if_pos a7.1, a7.2, if_pos x1, lt_def]
  simp only [n1]
  rw [v.2.2.2.2, z64, if_neg (fun z => by have := (lz_eq Bc B0).mp z; omega), a2 3 (by decide) (by decide), if_pos a5.1, a5.2, if_pos x1, a2 4 (by decide) (by decide), if_pos a6.1, a6.2, if_pos x1, a2 1 (by decide) (by decide), if_pos a3.1, a3.2, if_pos x1, if_pos (fun z => by have := (i64_eq Bc B0).mp z; omega), v.2.2.1, v.2.2.2.1, v.1, i64_of32 ⟨by omega, by omega⟩, i64_mul, i64_add, i64_div ⟨by omega, by omega⟩ Bc, lby_y, Int.mul_tdiv_cancel _ (by omega)]
theorem c_addJoined {k m : Nat} {p q : Spn} {ll : List Ln} (l4 : Lo h 74 12) (l8 : Lo h 81 12) (l7 : Lo h 67 288) (w4 : CLl h 74 (fs.map lby)) (w8 : CLl h 81 (gs.map lby)) (w7 : CLl h 67 ll) (hl : ll.length + 2 ≤ 288) (hk : fs[k]? = some p) (hm : gs[m]? = some q) (k12 : k < 12) (m12 : m < 12) (hp : SpN p) (hq : SpN q) : ∃ h', fX1_addJoined 67 74 (i32 (k : Int)) 81 (i32 (m : Int)) h = some ((), h') ∧ CLl h' 67 (ll ++ (joS p q).map lby) ∧ Fr (AY 67) h h' := by
  have fy1 := c_firstY l4 (by decide) w4 hk k12 hp
  have fy2 := c_firstY l8 (by decide) w8 hm m12 hq
  have ek : (fs.map lby)[k]? = some (lby p) := by rw [List.getElem?_map, hk]; rfl
  have em : (gs.map lby)[m]? = some (lby q) := by rw [List.getElem?_map, hm]; rfl
  obtain ⟨v1, v2, -, v4, -⟩ := w4.2 k _ ek
  obtain ⟨u1, u2, -, u4, -⟩ := w8.2 m _ em
  have ap4 : ∀ r' k, AY 74 r' k → ¬ AY 67 r' k := fun r' k z y => by unfold AY at z y; omega
  have ap8 : ∀ r' k, AY 81 r' k → ¬ AY 67 r' k := fun r' k z y => by unfold AY at z y; omega
  have vv : ∀ h1, Fr (AY 67) h h1 → hJ h1 (74 + 4) k = i64 (p.2.2.2 - p.2.1) ∧ hJ h1 (81 + 4) m = i64 (q.2.2.2 - q.2.1) := fun h1 F1 => by
    have t4 := ((w4.fr F1 ap4).2 k _ ek).2.2.2.1
    have t8 := ((w8.fr F1 ap8).2 m _ em).2.2.2.1
    rw [lby_B hp.2.2.2.2] at t4
    rw [lby_B hq.2.2.2.2] at t8
    exact ⟨t4, t8⟩
  rw [(lby_ends p).1] at v1
  rw [(lby_ends p).2] at v2
  rw [(lby_ends q).1] at u1
  rw [(lby_ends q).2] at u2
  rw [lby_B hp.2.2.2.2] at v4
  rw [lby_B hq.2.2.2.2] at u4
  obtain ⟨p1, p2, p3, p4, p5⟩ := hp
  obtain ⟨q1, q2, q3, q4, q5⟩ := hq
  have p5' : p.1 ≤ p.2.2.1 ∧ (p.1 = p.2.2.1 → p.2.1 = p.2.2.2) := p5
  have q5' : q.1 ≤ q.2.2.1 ∧ (q.1 = q.2.2.1 → q.2.1 = q.2.2.2) := q5
  have x1 : ix (i32 (k : Int)) 12 := ix_i (by omega) (by omega) (by decide)
  have y1 : ix (i32 (m : Int)) 12 := ix_i (by omega) (by omega) (by decide)
  have n1 := nat_i k (by omega)
  have n2 := nat_i m (by omega)
  have B0 : B64 0 := ⟨by decide, by decide⟩
  have Ba : B64 (p.2.2.1 - p.1) := ⟨by omega, by omega⟩
  have Bb : B64 (q.2.2.1 - q.1) := ⟨by omega, by omega⟩
  have mm1 := mul_b (M := 11880) (N := 11880) (show -11880 ≤ p.2.2.2 - p.2.1 ∧ p.2.2.2 - p.2.1 ≤ 11880 by omega) (show -11880 ≤ q.2.2.1 - q.1 ∧ q.2.2.1 - q.1 ≤ 11880 by omega)
  have mm2 := mul_b (M := 11880) (N := 11880) (show -11880 ≤ q.2.2.2 - q.2.1 ∧ q.2.2.2 - q.2.1 ≤ 11880 by omega) (show -11880 ≤ p.2.2.1 - p.1 ∧ p.2.2.1 - p.1 ≤ 11880 by omega)
  have Bm1 : B64 ((p.2.2.2 - p.2.1) * (q.2.2.1 - q.1)) := ⟨by omega, by omega⟩
  have Bm2 : B64 ((q.2.2.2 - q.2.1) * (p.2.2.1 - p.1)) := ⟨by omega, by omega⟩
  have l4' := l4
  have l8' := l8
  obtain ⟨a1, a2, a3, a4, a5, a6, a7, a8⟩ := l4
  obtain ⟨b1, b2, b3, b4, b5, b6, b7, b8⟩ := l8
  have r1 := a2 1 (by decide) (by decide)
  have r2 := a2 2 (by decide) (by decide)
  have r4 := a2 4 (by decide) (by decide)
  have s1 := b2 1 (by decide) (by decide)
  have s2 := b2 2 (by decide) (by decide)
  have s4 := b2 4 (by decide) (by decide)
  by_cases ca : p.1 = p.2.2.1
  · -- the first is a lone knot
    have ey := p5'.2 ca
    have es : joS p q = [(p.1 + q.1, p.2.1 + q.2.1, p.2.2.1 + q.2.2.1, p.2.2.2 + q.2.2.2)] := if_pos (Or.inl ca)
    obtain ⟨h1, E1, A1, F1⟩ := c_addBetween l7 w7 (by omega) (by decide) (x := p.1 + q.1) (y := p.2.1 + q.2.1) (a := q.2.2.1 - q.1) (u := q.2.2.2 - q.2.1) ⟨by omega, by omega⟩ (by omega) ⟨by omega, by omega⟩
    rw [show p.1 + q.1 + (q.2.2.1 - q.1) = p.2.2.1 + q.2.2.1 by omega, show p.2.1 + q.2.1 + (q.2.2.2 - q.2.1) = p.2.2.2 + q.2.2.2 by omega] at A1
    refine ⟨h1, ?_, by rw [es]; exact A1, F1⟩
    unfold fX1_addJoined
    rw [if_pos a1, r1, if_pos a3.1, a3.2, if_pos x1, if_pos b1, s1, if_pos b3.1, b3.2, if_pos y1]
    simp only [n1, n2]
    rw [v1, u1, i64_of32 ⟨by omega, by omega⟩, i64_of32 ⟨by omega, by omega⟩, i64_add, lt_def, fy1, bd_some, fy2, bd_some, i64_add, lt_def, r2, if_pos a4.1, a4.2, if_pos x1, r1, if_pos a3.1, a3.2, if_pos x1, v2, v1, i32_sub, i64_of32 ⟨by omega, by omega⟩, lt_def, s2, if_pos b4.1, b4.2, if_pos y1, s1, if_pos b3.1, b3.2, if_pos y1, u2, u1, i32_sub, i64_of32 ⟨by omega, by omega⟩, lt_def, z64, if_pos ((lz_eq Ba B0).mpr (by omega)), s4, if_pos b6.1, b6.2, if_pos y1, if_pos l7.1, u4, E1, bd_some]
  · by_cases cb : q.1 = q.2.2.1
    · have ey := q5'.2 cb
      have es : joS p q = [(p.1 + q.1, p.2.1 + q.2.1, p.2.2.1 + q.2.2.1, p.2.2.2 + q.2.2.2)] := if_pos (Or.inr cb)
      obtain ⟨h1, E1, A1, F1⟩ := c_addBetween l7 w7 (by omega) (by decide) (x := p.1 + q.1) (y := p.2.1 + q.2.1) (a := p.2.2.1 - p.1) (u := p.2.2.2 - p.2.1) ⟨by omega, by omega⟩ (by omega) ⟨by omega, by omega⟩
      rw [show p.1 + q.1 + (p.2.2.1 - p.1) = p.2.2.1 + q.2.2.1 by omega, show p.2.1 + q.2.1 + (p.2.2.2 - p.2.1) = p.2.2.2 + q.2.2.2 by omega] at A1
      refine ⟨h1, ?_, by rw [es]; exact A1, F1⟩
      unfold fX1_addJoined
      rw [if_pos a1, r1, if_pos a3.1, a3.2, if_pos x1, if_pos b1, s1, if_pos b3.1, b3.2, if_pos y1]
      simp only [n1, n2]
      rw [v1, u1, i64_of32 ⟨by omega, by omega⟩, i64_of32 ⟨by omega, by omega⟩, i64_add, lt_def, fy1, bd_some, fy2, bd_some, i64_add, lt_def, r2, if_pos a4.1, a4.2, if_pos x1, r1, if_pos a3.1, a3.2, if_pos x1, v2, v1, i32_sub, i64_of32 ⟨by omega, by omega⟩, lt_def, s2, if_pos b4.1, b4.2, if_pos y1, s1, if_pos b3.1, b3.2, if_pos y1, u2, u1, i32_sub, i64_of32 ⟨by omega, by omega⟩, lt_def, z64, if_neg (fun z => by have := (lz_eq Ba B0).mp z; omega), if_pos ((lz_eq Bb B0).mpr (by omega)), r4, if_pos a6.1, a6.2, if_pos x1, if_pos l7.1, v4, E1, bd_some]
    · have nc : ¬ (p.1 = p.2.2.1 ∨ q.1 = q.2.2.1) := by omega
      by_cases cc : (p.2.2.2 - p.2.1) * (q.2.2.1 - q.1) ≤ (q.2.2.2 - q.2.1) * (p.2.2.1 - p.1)
      · have es : joS p q = [(p.1 + q.1, p.2.1 + q.2.1, p.2.2.1 + q.1, p.2.2.2 + q.2.1), (p.2.2.1 + q.1, p.2.2.2 + q.2.1, p.2.2.1 + q.2.2.1, p.2.2.2 + q.2.2.2)] := (if_neg nc).trans (if_pos cc)
        obtain ⟨h1, E1, A1, F1⟩ := c_addBetween l7 w7 (by omega) (by decide) (x := p.1 + q.1) (y := p.2.1 + q.2.1) (a := p.2.2.1 - p.1) (u := p.2.2.2 - p.2.1) ⟨by omega, by omega⟩ (by omega) ⟨by omega, by omega⟩
        rw [show p.1 + q.1 + (p.2.2.1 - p.1) = p.2.2.1 + q.1 by omega, show p.2.1 + q.2.1 + (p.2.2.2 - p.2.1) = p.2.2.2 + q.2.1 by omega] at A1
        obtain ⟨h2, E2, A2, F2⟩ := c_addBetween (F1.lo l7) A1 (by rw [List.length_append]; show ll.length + 1 < 288; omega) (by decide) (x := p.1 + q.1 + (p.2.2.1 - p.1)) (y := p.2.1 + q.2.1 + (p.2.2.2 - p.2.1)) (a := q.2.2.1 - q.1) (u := q.2.2.2 - q.2.1) ⟨by omega, by omega⟩ (by omega) ⟨by omega, by omega⟩
        rw [show p.1 + q.1 + (p.2.2.1 - p.1) + (q.2.2.1 - q.1) = p.2.2.1 + q.2.2.1 by omega, show p.2.1 + q.2.1 + (p.2.2.2 - p.2.1) + (q.2.2.2 - q.2.1) = p.2.2.2 + q.2.2.2 by omega, show p.1 + q.1 + (p.2.2.1 - p.1) = p.2.2.1 + q.1 by omega, show p.2.1 + q.2.1 + (p.2.2.2 - p.2.1) = p.2.2.2 + q.2.1 by omega, List.append_assoc] at A2
        refine ⟨h2, ?_, by rw [es]; exact A2, F1.tr F2⟩
        have c4 := F1.lo l4'
        have c8 := F1.lo l8'
        have t4 := c4.2.1 4 (by decide) (by decide)
        have t8 := c8.2.1 4 (by decide) (by decide)
        obtain ⟨z4, z8⟩ := vv h1 F1
        unfold fX1_addJoined
        rw [if_pos a1, r1, if_pos a3.1, a3.2, if_pos x1, if_pos b1, s1, if_pos b3.1, b3.2, if_pos y1]
        simp only [n1, n2]
        rw [v1, u1, i64_of32 ⟨by omega, by omega⟩, i64_of32 ⟨by omega, by omega⟩, i64_add, lt_def, fy1, bd_some, fy2, bd_some, i64_add, lt_def, r2, if_pos a4.1, a4.2, if_pos x1, r1, if_pos a3.1, a3.2, if_pos x1, v2, v1, i32_sub, i64_of32 ⟨by omega, by omega⟩, lt_def, s2, if_pos b4.1, b4.2, if_pos y1, s1, if_pos b3.1, b3.2, if_pos y1, u2, u1, i32_sub, i64_of32 ⟨by omega, by omega⟩, lt_def, z64, if_neg (fun z => by have := (lz_eq Ba B0).mp z; omega), if_neg (fun z => by have := (lz_eq Bb B0).mp z; omega), r4, if_pos a6.1, a6.2, if_pos x1, s4, if_pos b6.1, b6.2, if_pos y1, v4, u4, i64_mul, i64_mul, if_neg (fun z => by have := (lz_gt Bm1 Bm2).mp z; omega), if_pos l7.1, E1, bd_some, t4, if_pos c4.2.2.2.2.2.1.1, c4.2.2.2.2.2.1.2, if_pos x1, t8, if_pos c8.2.2.2.2.2.1.1, c8.2.2.2.2.2.1.2, if_pos y1, z4, z8, i64_add, i64_add, E2, bd_some]
      · have es : joS p q = [(p.1 + q.1, p.2.1 + q.2.1, p.1 + q.2.2.1, p.2.1 + q.2.2.2), (p.1 + q.2.2.1, p.2.1 + q.2.2.2, p.2.2.1 + q.2.2.1, p.2.2.2 + q.2.2.2)] := (if_neg nc).trans (if_neg cc)
        obtain ⟨h1, E1, A1, F1⟩ := c_addBetween l7 w7 (by omega) (by decide) (x := p.1 + q.1) (y := p.2.1 + q.2.1) (a := q.2.2.1 - q.1) (u := q.2.2.2 - q.2.1) ⟨by omega, by omega⟩ (by omega) ⟨by omega, by omega⟩
        rw [show p.1 + q.1 + (q.2.2.1 - q.1) = p.1 + q.2.2.1 by omega, show p.2.1 + q.2.1 + (q.2.2.2 - q.2.1) = p.2.1 + q.2.2.2 by omega] at A1
        obtain ⟨h2, E2, A2, F2⟩ := c_addBetween (F1.lo l7) A1 (by rw [List.length_append]; show ll.length + 1 < 288; omega) (by decide) (x := p.1 + q.1 + (q.2.2.1 - q.1)) (y := p.2.1 + q.2.1 + (q.2.2.2 - q.2.1)) (a := p.2.2.1 - p.1) (u := p.2.2.2 - p.2.1) ⟨by omega, by omega⟩ (by omega) ⟨by omega, by omega⟩
        rw [show p.1 + q.1 + (q.2.2.1 - q.1) + (p.2.2.1 - p.1) = p.2.2.1 + q.2.2.1 by omega, show p.2.1 + q.2.1 + (q.2.2.2 - q.2.1) + (p.2.2.2 - p.2.1) = p.2.2.2 + q.2.2.2 by omega, show p.1 + q.1 + (q.2.2.1 - q.1) = p.1 + q.2.2.1 by omega, show p.2.1 + q.2.1 + (q.2.2.2 - q.2.1) = p.2.1 + q.2.2.2 by omega, List.append_assoc] at A2
        refine ⟨h2, ?_, by rw [es]; exact A2, F1.tr F2⟩
        have c4 := F1.lo l4'
        have c8 := F1.lo l8'
        have t4 := c4.2.1 4 (by decide) (by decide)
        have t8 := c8.2.1 4 (by decide) (by decide)
        obtain ⟨z4, z8⟩ := vv h1 F1
        unfold fX1_addJoined
        rw [if_pos a1, r1, if_pos a3.1, a3.2, if_pos x1, if_pos b1, s1, if_pos b3.1, b3.2, if_pos y1]
        simp only [n1, n2]
        rw [v1, u1, i64_of32 ⟨by omega, by omega⟩, i64_of32 ⟨by omega, by omega⟩, i64_add, lt_def, fy1, bd_some, fy2, bd_some, i64_add, lt_def, r2, if_pos a4.1, a4.2, if_pos x1, r1, if_pos a3.1, a3.2, if_pos x1, v2, v1, i32_sub, i64_of32 ⟨by omega, by omega⟩, lt_def, s2, if_pos b4.1, b4.2, if_pos y1, s1, if_pos b3.1, b3.2, if_pos y1, u2, u1, i32_sub, i64_of32 ⟨by omega, by omega⟩, lt_def, z64, if_neg (fun z => by have := (lz_eq Ba B0).mp z; omega), if_neg (fun z => by have := (lz_eq Bb B0).mp z; omega), r4, if_pos a6.1, a6.2, if_pos x1, s4, if_pos b6.1, b6.2, if_pos y1, v4, u4, i64_mul, i64_mul, if_pos ((lz_gt Bm1 Bm2).mpr (by omega)), if_pos l7.1, E1, bd_some, t8, if_pos c8.2.2.2.2.2.1.1, c8.2.2.2.2.2.1.2, if_pos y1, t4, if_pos c4.2.2.2.2.2.1.1, c4.2.2.2.2.2.1.2, if_pos x1, z4, z8, i64_add, i64_add, E2, bd_some]
theorem c_jo2 {k : Nat} {f : Spn} (hs : gs.length ≤ 12) (hb : ∀ l ∈ gs, SpN l) (hk : fs[k]? = some f) (k12 : k < 12) (hf : SpN f) (r29 : Nat → Int32 → xH → Option (Int32 × xH)) : ∀ (d j m : Nat) (h : xH) (ll : List Ln), j + d = gs.length → d < m → ShI h cap lst → CLl h 74 (fs.map lby) → CLl h 81 (gs.map lby) → CLl h 67 ll → ll.length + 2 * d ≤ 288 → ∃ h', fX6_join_l43 r29 m 2 (i32 (k : Int)) (i32 (j : Int)) h = r29 2 (i32 ((k + 1 : Nat) : Int)) h' ∧ CLl h' 67 (ll ++ ((gs.drop j).flatMap (joS f)).map lby) ∧ Fr (AY 67) h h' := by
  intro d
  induction d with
  | zero =>
    intro j m h ll hj hm I w4 w8 w7 hl
    obtain ⟨m, rfl⟩ : ∃ k, m = k + 1 := ⟨m - 1, by omega⟩
    have co := I.1
    have c0 := w8.1
    rw [List.length_map] at c0
    refine ⟨h, ?_, by rw [List.drop_eq_nil_of_le (by omega)]; simpa using w7, Fr.rf h⟩
    show fX6_join_b43 _ _ 2 _ _ h = _
    unfold fX6_join_b43
    rw [if_pos co.k2, co.r2_10, if_pos co.lo81.1, c0, if_pos ((i32_le ⟨by omega, by omega⟩ ⟨by omega, by omega⟩).mpr (by omega)), lt_def, one32, i32_add, kp1]
  | succ d ih =>
    intro j m h ll hj hm I w4 w8 w7 hl
    obtain ⟨m, rfl⟩ : ∃ k, m = k + 1 := ⟨m - 1, by omega⟩
    have co := I.1
    have c0 := w8.1
    rw [List.length_map] at c0
    have hjl : j < gs.length := by omega
    have hg : gs[j]? = some gs[j] := List.getElem?_eq_getElem hjl
    obtain ⟨h1, E1, w1, F1⟩ := c_addJoined (k := k) (m := j) co.lo74 co.lo81 co.lo67 w4 w8 w7 (by omega) hk hg k12 (by omega) hf (hb _ (List.getElem_mem _))
    have I1 := I.ay F1
    obtain ⟨h2, E2, w2, F2⟩ := ih (j + 1) m h1 _ (by omega) (by omega) I1 (w4.fr F1 (fun r c z y => by unfold AY at z y; omega)) (w8.fr F1 (fun r c z y => by unfold AY at z y; omega)) w1 (by
      rw [List.length_append]
      have := jo_2 f gs[j]
      rw [List.length_map]
      omega)
    refine ⟨h2, ?_, ?_, F1.tr F2⟩
    · show fX6_join_b43 _ _ 2 _ _ h = _
      unfold fX6_join_b43
      rw [if_pos co.k2, co.r2_10, if_pos co.lo81.1, c0, if_neg (fun z => by have := (i32_le ⟨by omega, by omega⟩ ⟨by omega, by omega⟩).mp z; omega), co.r2_8, if_pos co.lo67.1, co.r2_9, E1, bd_some, lt_def, one32, i32_add, kp1]
      exact E2
    · rw [List.drop_eq_getElem_cons hjl, List.flatMap_cons, List.map_append]
      rw [List.append_assoc] at w2
      exact w2
theorem c_jo1 (hsf : fs.length ≤ 12) (hbf : ∀ l ∈ fs, SpN l) (hs : gs.length ≤ 12) (hb : ∀ l ∈ gs, SpN l) : ∀ (d k m : Nat) (h : xH) (ll : List Ln), k + d = fs.length → d < m → ShI h cap lst → CLl h 74 (fs.map lby) → CLl h 81 (gs.map lby) → CLl h 67 ll → ll.length + 24 * d ≤ 288 → ∃ h', fX6_join_l29 m 2 (i32 (k : Int)) h = bd (fX6_ontoPaper 2 5 h') (fun w5 g3 => some (w5, g3)) ∧ CLl h' 67 (ll ++ (joM (fs.drop k) gs).map lby) ∧ Fr (AY 67) h h' := by
  intro d
  induction d with
  | zero =>
    intro k m h ll hk hm I w4 w8 w7 hl
    obtain ⟨m, rfl⟩ : ∃ k, m = k + 1 := ⟨m - 1, by omega⟩
    have co := I.1
    have c0 := w4.1
    rw [List.length_map] at c0
    refine ⟨h, ?_, by rw [List.drop_eq_nil_of_le (by omega)]; simpa [joM] using w7, Fr.rf h⟩
    show fX6_join_b29 _ 2 _ h = _
    unfold fX6_join_b29
    rw [if_pos co.k2, co.r2_9, if_pos co.lo74.1, c0, if_pos ((i32_le ⟨by omega, by omega⟩ ⟨by omega, by omega⟩).mpr (by omega))]
  | succ d ih =>
    intro k m h ll hk hm I w4 w8 w7 hl
    obtain ⟨m, rfl⟩ : ∃ k, m = k + 1 := ⟨m - 1, by omega⟩
    have co := I.1
    have c0 := w4.1
    rw [List.length_map] at c0
    have hkl : k < fs.length := by omega
    have hg : fs[k]? = some fs[k] := List.getElem?_eq_getElem hkl
    obtain ⟨h1, E1, w1, F1⟩ := c_jo2 (k := k) hs hb hg (by omega) (hbf _ (List.getElem_mem _)) (fX6_join_l29 m) gs.length 0 FU h ll (by omega) (by rw [FU_eq]; omega) I w4 w8 w7 (by omega)
    rw [List.drop_zero] at w1
    have I1 := I.ay F1
    obtain ⟨h2, E2, w2, F2⟩ := ih (k + 1) m h1 _ (by omega) (by omega) I1 (w4.fr F1 (fun r c z y => by unfold AY at z y; omega)) (w8.fr F1 (fun r c z y => by unfold AY at z y; omega)) w1 (by
      rw [List.length_append]
      have := fm_le12 (c := 2) (f := joS fs[k]) gs (fun q _ => jo_2 fs[k] q)
      rw [List.length_map]
      omega)
    refine ⟨h2, ?_, ?_, F1.tr F2⟩
    · show fX6_join_b29 _ 2 _ h = _
      have E1' : fX6_join_l43 (fX6_join_l29 m) FU 2 (i32 (k : Int)) 0 h = fX6_join_l29 m 2 (i32 ((k + 1 : Nat) : Int)) h1 := E1
      unfold fX6_join_b29
      rw [if_pos co.k2, co.r2_9, if_pos co.lo74.1, c0, if_neg (fun z => by have := (i32_le ⟨by omega, by omega⟩ ⟨by omega, by omega⟩).mp z; omega), lt_def, E1']
      exact E2
    · unfold joM at w2 ⊢
      rw [List.drop_eq_getElem_cons hkl, List.flatMap_cons, List.map_append]
      rw [List.append_assoc] at w2
      exact w2
theorem c_join_ok {n m : Nat} (hn : n < 6) (hm : m < 6) (K : AOk S) (C : CSt h S) : ∃ g ks, fX6_join 2 (i32 (n : Int)) (i32 (m : Int)) h = some (i32 (ks.length : Int), g) ∧ PaperIs (lnn ((joM (spL (aC S n)) (spL (aC S m))).map lby)) ((joM (spL (aC S n)) (spL (aC S m))).map lby).length ks ∧ CSt g (actA S 5 6 ks) ∧ Out h g := by
  obtain ⟨cap, lst, c1, c2, c3, c4, c5⟩ := C
  have co := c1.1.1
  have Cn := K.1.1 n hn
  have Cm := K.1.1 m hm
  have s1 : (spL (aC S n)).length ≤ 12 ∧ ∀ p ∈ spL (aC S n), SpN p := ⟨(can_sb Cn).1, can_n Cn⟩
  have s2 : (spL (aC S m)).length ≤ 12 ∧ ∀ p ∈ spL (aC S m), SpN p := ⟨(can_sb Cm).1, can_n Cm⟩
  obtain ⟨h1, E1, w4, w8, w7, F1⟩ := c_loadPair (n := n) (m := m) c1.1 hn hm (by rw [c2 n (by omega)]; exact Cn) (by rw [c2 m (by omega)]; exact Cm)
  rw [c2 n (by omega)] at w4
  rw [c2 m (by omega)] at w8
  have I1 := c1.1.alp F1
  obtain ⟨h2, E2, w2, F2⟩ := c_jo1 s1.1 s1.2 s2.1 s2.2 (spL (aC S n)).length 0 FU h1 [] (by omega) (by rw [FU_eq]; have := s1.1; omega) I1 w4 w8 w7 (by have := s1.1; show 0 + 24 * (spL (aC S n)).length ≤ 288; omega)
  rw [List.nil_append, List.drop_zero] at w2
  obtain ⟨g, ks, E3, P3, C3, O3⟩ := c_ontoG (act := 5) (jm_co Cn Cm) c1 c2 c3 c5 (F1.tr (F2.mono (fun r k z => Or.inl (Or.inr z)))) (fun r k z => alp_ok z) w2
  refine ⟨g, ks, ?_, P3, C3, O3⟩
  have E3' : fX6_ontoPaper 2 5 h2 = some (i32 (ks.length : Int), g) := E3
  have E2' : fX6_join_l29 FU 2 0 h1 = bd (fX6_ontoPaper 2 5 h2) (fun w5 g3 => some (w5, g3)) := E2
  have d1 : decide (0 ≤ (n : Int) ∧ (n : Int) ≤ 5) = true := decide_eq_true (by omega)
  have d2 : decide (0 ≤ (m : Int) ∧ (m : Int) ≤ 5) = true := decide_eq_true (by omega)
  unfold fX6_join
  rw [c_isStore ⟨by omega, by omega⟩, bd_some, d1, if_neg bzt0, c_isStore ⟨by omega, by omega⟩, bd_some, d2, if_neg bzt0, if_pos co.k2, E1, bd_some, lt_def, E2', E3', bd_some]
end JC
