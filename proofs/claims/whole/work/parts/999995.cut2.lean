/-! CALLS: cut, one line -/
section CV
variable {h : xH} {lo hi : Int} {ls : List Ln}
theorem c_addCut {k : Nat} {l : Ln} {ll : List Ln} (l4 : Lo h 74 12) (l7 : Lo h 67 288) (w4 : CLl h 74 ls) (w7 : CLl h 67 ll) (hl : ll.length < 288) (hk : ls[k]? = some l) (k12 : k < 12) (hb : LnB l) (b1 : -5940 ≤ lo ∧ lo ≤ 5940) (b2 : -5940 ≤ hi ∧ hi ≤ 5940) : ∃ h', fX1_addCut 67 74 (i32 (k : Int)) (i32 lo) (i32 hi) h = some ((), h') ∧ CLl h' 67 (ll ++ (cuL lo hi l).toList) ∧ Fr (AY 67) h h' := by
  have v := w4.2 k _ hk
  obtain ⟨b, f1, f2, f3⟩ := hb
  have x1 : ix (i32 (k : Int)) 12 := ix_i (by omega) (by omega) (by decide)
  have n1 := nat_i k (by omega)
  have m1 := (mx_b f1 (show -11880 ≤ lo ∧ lo ≤ 11880 by omega)).1
  have m2 := (mx_b f2 (show -11880 ≤ hi ∧ hi ≤ 11880 by omega)).2
  have c32 : B64 (lnC l) := ⟨by have := b.2.2.1; omega, by have := b.2.2.2; omega⟩
  have key : ∃ h', fX1_addLine 67 (i32 (mxI (lnF l) lo)) (i32 (mnI (lnT l) hi)) (i64 (lnA l)) (i64 (lnB l)) (i64 (lnC l)) h = some ((), h') ∧ CLl h' 67 (ll ++ (cuL lo hi l).toList) ∧ Fr (AY 67) h h' := by
    unfold cuL
    by_cases c : mxI (lnF l) lo ≤ mnI (lnT l) hi
    · rw [if_pos c]
      exact c_addLine l7 w7 hl (by decide) ⟨by omega, by omega⟩ ⟨by omega, by omega⟩ c b.2.2.1 c32
    · rw [if_neg c]
      refine ⟨h, c_addLine_no l7 w7 hl (by decide) ⟨by omega, by omega⟩ ⟨by omega, by omega⟩ c b.2.2.1 c32, ?_, Fr.rf h⟩
      show CLl h 67 (ll ++ [])
      rw [List.append_nil]; exact w7
  obtain ⟨h', E, A, F⟩ := key
  refine ⟨h', ?_, A, F⟩
  obtain ⟨a1, a2, a3, a4, a5, a6, a7, a8⟩ := l4
  unfold fX1_addCut
  rw [if_pos a1, a2 1 (by decide) (by decide), if_pos a3.1, a3.2, if_pos x1]
  simp only [n1]
  rw [v.1, c_maxI ⟨by omega, by omega⟩ ⟨by omega, by omega⟩, bd_some, a2 2 (by decide) (by decide), if_pos a4.1, a4.2, if_pos x1, v.2.1, c_minI ⟨by omega, by omega⟩ ⟨by omega, by omega⟩, bd_some, a2 3 (by decide) (by decide), if_pos a5.1, a5.2, if_pos x1, a2 4 (by decide) (by decide), if_pos a6.1, a6.2, if_pos x1, a2 5 (by decide) (by decide), if_pos a7.1, a7.2, if_pos x1, if_pos l7.1, v.2.2.1, v.2.2.2.1, v.2.2.2.2, E, bd_some]
end CV
