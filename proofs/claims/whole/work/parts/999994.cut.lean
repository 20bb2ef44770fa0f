/-! CALLS: cut (the class adds one line, cut) -/
def mxI (x y : Int) : Int := if x < y then y else x
def mnI (x y : Int) : Int := if y < x then y else x
def cuL (lo hi : Int) (l : Ln) : Option Ln := if mxI (lnF l) lo ≤ mnI (lnT l) hi then some (mxI (lnF l) lo, mnI (lnT l) hi, lnA l, lnB l, lnC l) else none
section CT
variable {h : xH}
theorem c_maxI {x y : Int} (hx : B32 x) (hy : B32 y) (h : xH) : fJ9_max_7cf53 (i32 x) (i32 y) h = some (i32 (mxI x y), h) := by
  unfold fJ9_max_7cf53 mxI
  by_cases c : x < y
  · rw [if_pos ((i32_lt hx hy).mpr c), if_pos c]
  · rw [if_neg (fun z => c ((i32_lt hx hy).mp z)), if_neg c]
theorem c_minI {x y : Int} (hx : B32 x) (hy : B32 y) (h : xH) : fJ9_min_7cf53 (i32 x) (i32 y) h = some (i32 (mnI x y), h) := by
  unfold fJ9_min_7cf53 mnI
  by_cases c : y < x
  · rw [if_pos ((i32_lt hy hx).mpr c), if_pos c]
  · rw [if_neg (fun z => c ((i32_lt hy hx).mp z)), if_neg c]
theorem mx_b {x y lo hi : Int} (h1 : lo ≤ x ∧ x ≤ hi) (h2 : lo ≤ y ∧ y ≤ hi) : (lo ≤ mxI x y ∧ mxI x y ≤ hi) ∧ (lo ≤ mnI x y ∧ mnI x y ≤ hi) := by
  unfold mxI mnI
  exact ⟨by split <;> omega, by split <;> omega⟩
theorem c_addLine_no {r M : Nat} {ll : List Ln} (q : Lo h r M) (w : CLl h r ll) (hl : ll.length < M) (hM : M ≤ 60000) {a b A B C : Int} (ha : B32 a) (hb : B32 b) (hab : ¬ a ≤ b) (hC : 0 < C) (hC2 : B64 C) : fX1_addLine r (i32 a) (i32 b) (i64 A) (i64 B) (i64 C) h = some ((), h) := by
  have z0 : B64 0 := ⟨by decide, by decide⟩
  unfold fX1_addLine
  rw [if_pos q.1, q.2.1 1 (by decide) (by decide), if_pos q.2.2.1.1, q.2.2.1.2, ofNat_i, w.1, if_neg (fun z => by have := (i32_le ⟨by omega, by omega⟩ ⟨by omega, by omega⟩).mp z; omega), z64, if_neg (fun z => by have := (lz_le hC2 z0).mp z; omega), if_neg (fun z => hab ((i32_le ha hb).mp z))]
end CT
