/-! CALLS: times -/
def tmS (r : Int) (p : Spn) : Spn := (p.1, p.2.1 * r, p.2.2.1, p.2.2.2 * r)
theorem tm_lby (r : Int) (p : Spn) : lby (tmS r p) = (lnF (lby p), lnT (lby p), lnA (lby p) * r, lnB (lby p) * r, lnC (lby p)) := by
  obtain ⟨x1, y1, x2, y2⟩ := p
  by_cases z : x1 = x2
  · have e1 : lby (tmS r (x1, y1, x2, y2)) = (x1, x2, y1 * r, 0, 1) := if_pos z
    have e2 : lby (x1, y1, x2, y2) = (x1, x2, y1, 0, 1) := if_pos z
    rw [e1, e2]
    show (x1, x2, y1 * r, (0 : Int), (1 : Int)) = (x1, x2, y1 * r, 0 * r, 1)
    rw [Int.zero_mul]
  · have e1 : lby (tmS r (x1, y1, x2, y2)) = (x1, x2, y1 * r * (x2 - x1) - (y2 * r - y1 * r) * x1, y2 * r - y1 * r, x2 - x1) := if_neg z
    have e2 : lby (x1, y1, x2, y2) = (x1, x2, y1 * (x2 - x1) - (y2 - y1) * x1, y2 - y1, x2 - x1) := if_neg z
    rw [e1, e2]
    show _ = (x1, x2, (y1 * (x2 - x1) - (y2 - y1) * x1) * r, (y2 - y1) * r, x2 - x1)
    rw [← Int.sub_mul y2 y1 r, Int.mul_right_comm y1 r, Int.mul_right_comm (y2 - y1) r, ← Int.sub_mul (y1 * (x2 - x1)) ((y2 - y1) * x1) r]
section TI
variable {h : xH} {S : Ast} {cap : Nat → Nat} {lst : Nat → List Kn} {r : Int} {sps : List Spn}
theorem c_addMult {k : Nat} {p : Spn} {ll : List Ln} (l4 : Lo h 74 12) (l7 : Lo h 67 288) (w4 : CLl h 74 (sps.map lby)) (w7 : CLl h 67 ll) (hl : ll.length < 288) (hk : sps[k]? = some p) (k12 : k < 12) (hp : SpB p) (br : 0 ≤ r ∧ r ≤ 60) : ∃ h', fX1_addMultiple 67 74 (i32 (k : Int)) (i32 r) h = some ((), h') ∧ CLl h' 67 (ll ++ [lby (tmS r p)]) ∧ Fr (AY 67) h h' := by
  have e : (sps.map lby)[k]? = some (lby p) := by rw [List.getElem?_map, hk]; rfl
  have v := w4.2 k _ e
  have b := lby_b hp
  have x1 : ix (i32 (k : Int)) 12 := ix_i (by omega) (by omega) (by decide)
  have n1 := nat_i k (by omega)
  obtain ⟨h', E, A, F⟩ := c_addLine l7 w7 hl (by decide) (a := lnF (lby p)) (b := lnT (lby p)) (A := lnA (lby p) * r) (B := lnB (lby p) * r) (C := lnC (lby p)) ⟨by omega, by omega⟩ ⟨by omega, by omega⟩ (by omega) b.1.2.2.1 ⟨by have := b.1.2.2.1; omega, by have := b.1.2.2.2; omega⟩
  refine ⟨h', ?_, by rw [tm_lby]; exact A, F⟩
  obtain ⟨a1, a2, a3, a4, a5, a6, a7, a8⟩ := l4
  unfold fX1_addMultiple
  rw [if_pos a1, a2 1 (by decide) (by decide), if_pos a3.1, a3.2, if_pos x1, a2 2 (by decide) (by decide), if_pos a4.1, a4.2, if_pos x1, a2 3 (by decide) (by decide), if_pos a5.1, a5.2, if_pos x1, a2 4 (by decide) (by decide), if_pos a6.1, a6.2, if_pos x1, a2 5 (by decide) (by decide), if_pos a7.1, a7.2, if_pos x1, if_pos l7.1]
  simp only [n1]
  rw [v.1, v.2.1, v.2.2.1, v.2.2.2.1, v.2.2.2.2, i64_of32 ⟨by omega, by omega⟩, i64_mul, i64_mul, E, bd_some]
theorem c_tml (hs : sps.length ≤ 12) (hb : ∀ p ∈ sps, SpB p) (br : 0 ≤ r ∧ r ≤ 60) : ∀ (d k m : Nat) (h : xH) (ll : List Ln), k + d = sps.length → d < m → ShI h cap lst → CLl h 74 (sps.map lby) → CLl h 67 ll → ll.length + d ≤ 288 → ∃ h', fX6_times_l37 m 2 (i32 r) (i32 (k : Int)) h = bd (fX6_ontoPaper 2 10 h') (fun w5 g3 => some (w5, g3)) ∧ CLl h' 67 (ll ++ (((sps.drop k).map (tmS r)).map lby)) ∧ Fr (AY 67) h h' := by
  intro d
  induction d with
  | zero =>
    intro k m h ll hk hm I w4 w7 hl
    obtain ⟨m, rfl⟩ : ∃ k, m = k + 1 := ⟨m - 1, by omega⟩
    have co := I.1
    have c0 := w4.1
    rw [List.length_map] at c0
    refine ⟨h, ?_, by rw [List.drop_eq_nil_of_le (by omega)]; simpa using w7, Fr.rf h⟩
    show fX6_times_b37 _ 2 _ _ h = _
    unfold fX6_times_b37
    rw [if_pos co.k2, co.r2_9, if_pos co.lo74.1, c0, if_pos ((i32_le ⟨by omega, by omega⟩ ⟨by omega, by omega⟩).mpr (by omega))]
  | succ d ih =>
    intro k m h ll hk hm I w4 w7 hl
    obtain ⟨m, rfl⟩ : ∃ k, m = k + 1 := ⟨m - 1, by omega⟩
    have co := I.1
    have c0 := w4.1
    rw [List.length_map] at c0
    have hkl : k < sps.length := by omega
    have hg : sps[k]? = some sps[k] := List.getElem?_eq_getElem hkl
    obtain ⟨h1, E1, w1, F1⟩ := c_addMult (k := k) co.lo74 co.lo67 w4 w7 (by omega) hg (by omega) (hb _ (List.getElem_mem _)) br
    have I1 := I.ay F1
    obtain ⟨h2, E2, w2, F2⟩ := ih (k + 1) m h1 _ (by omega) (by omega) I1 (w4.fr F1 (fun r c z y => by unfold AY at z y; omega)) w1 (by rw [List.length_append]; show ll.length + 1 + d ≤ 288; omega)
    refine ⟨h2, ?_, ?_, F1.tr F2⟩
    · show fX6_times_b37 _ 2 _ _ h = _
      unfold fX6_times_b37
      rw [if_pos co.k2, co.r2_9, if_pos co.lo74.1, c0, if_neg (fun z => by have := (i32_le ⟨by omega, by omega⟩ ⟨by omega, by omega⟩).mp z; omega), co.r2_8, if_pos co.lo67.1, E1, bd_some, lt_def, one32, i32_add, kp1]
      exact E2
    · rw [List.drop_eq_getElem_cons hkl, List.map_cons, List.map_cons]
      rw [List.append_assoc] at w2
      exact w2
end TI
