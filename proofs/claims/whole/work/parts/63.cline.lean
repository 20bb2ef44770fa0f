/-! THE CLASS' LINES: orderAt, steepness, lowestLive -/
def Lo (h : xH) (r M : Nat) : Prop := kc h r = 1 ∧ (∀ k, 1 ≤ k → k ≤ 6 → hR h r k = r + k) ∧ (kc h (r + 1) = 8 ∧ kl h (r + 1) = M) ∧ (kc h (r + 2) = 8 ∧ kl h (r + 2) = M) ∧ (kc h (r + 3) = 9 ∧ kl h (r + 3) = M) ∧ (kc h (r + 4) = 9 ∧ kl h (r + 4) = M) ∧ (kc h (r + 5) = 9 ∧ kl h (r + 5) = M) ∧ (kc h (r + 6) = 8 ∧ kl h (r + 6) = M)
def CLn (h : xH) (r : Nat) (L : Nat → Ln) (n : Nat) : Prop := ∀ k, k < n → hI h (r + 1) k = i32 (lnF (L k)) ∧ hI h (r + 2) k = i32 (lnT (L k)) ∧ hJ h (r + 3) k = i64 (lnA (L k)) ∧ hJ h (r + 4) k = i64 (lnB (L k)) ∧ hJ h (r + 5) k = i64 (lnC (L k))
def KonC (MA MB MC X : Int) : Prop := MA + MB * X ≤ 4611686018427387904 ∧ MC * MC ≤ 4611686018427387904 ∧ MB * MC ≤ 4611686018427387904 ∧ X ≤ 2147483647
section CL
variable {MA MB MC X : Int} {L : Nat → Ln} {n M r : Nat} {h : xH}
theorem vl_int {l : Ln} (hC : 0 < lnC l) (x : Int) : ((lnA l + lnB l * x : Int) : Rat) / ((lnC l : Int) : Rat) = vl l x := by
  have hc := cast_ne (show lnC l ≠ 0 by omega)
  unfold vl ic sl
  rw [Rat.intCast_add, Rat.intCast_mul]
  generalize (lnC l : Rat) = c at *
  grind
theorem c_orderAt (kk : KonC MA MB MC X) (q : Lo h r M) (w : CLn h r L n) (hn : n ≤ M) (hM : M ≤ 60000) {k m : Nat} (hk : k < n) (hm : m < n) (bk : LBd MA MB MC (L k)) (bm : LBd MA MB MC (L m)) {x : Int} (hx : -X ≤ x ∧ x ≤ X) : ∃ z, fX1_orderAt r (i32 k) (i32 m) (i32 x) h = some (i32 (sg z), h) ∧ (sg z < 0 ↔ vl (L k) x < vl (L m) x) ∧ (0 < sg z ↔ vl (L m) x < vl (L k) x) := by
  have key : ∀ l : Ln, LBd MA MB MC l → Q (lnA l + lnB l * x) := by
    intro l b
    have u2 := mul_b b.2.1 hx
    have := kk.1
    exact ⟨by have := b.1; omega, by have := b.1; omega⟩
  have cc : lnC (L k) * lnC (L m) ≤ MC * MC := by
    have u := mul_b (a := lnC (L k)) (M := MC) (b := lnC (L m)) (N := MC) ⟨by have := bk.2.2.1; have := bk.2.2.2; omega, bk.2.2.2⟩ ⟨by have := bm.2.2.1; have := bm.2.2.2; omega, bm.2.2.2⟩
    exact u.2
  refine ⟨(lnA (L k) + lnB (L k) * x) * lnC (L m) - (lnA (L m) + lnB (L m) * x) * lnC (L k), ?_, ?_, ?_⟩
  · unfold fX1_orderAt
    have e1 := nat_i k (by omega)
    have e2 := nat_i m (by omega)
    have x1 : ix (i32 k) M := ix_i (by omega) (by omega) (by omega)
    have x2 : ix (i32 m) M := ix_i (by omega) (by omega) (by omega)
    have wk := w k hk
    have wm := w m hm
    have ex : (i32 x).toInt64 = i64 x := i64_of32 ⟨by have := kk.2.2.2; omega, by have := kk.2.2.2; omega⟩
    simp only [q.1, q.2.1 3 (by decide) (by decide), q.2.1 4 (by decide) (by decide), q.2.1 5 (by decide) (by decide), q.2.2.2.2.1.1, q.2.2.2.2.1.2, q.2.2.2.2.2.1.1, q.2.2.2.2.2.1.2, q.2.2.2.2.2.2.1.1, q.2.2.2.2.2.2.1.2, e1, e2, if_pos x1, if_pos x2, wk.2.2.1, wk.2.2.2.1, wk.2.2.2.2, wm.2.2.1, wm.2.2.2.1, wm.2.2.2.2, ex, i64_mul, i64_add, reduceIte]
    rw [c_order (key _ bk) bk.2.2.1 (key _ bm) bm.2.2.1 (by have := kk.2.1; omega), bd_some]
  · rw [sq_lt bk.2.2.1 bm.2.2.1, vl_int bk.2.2.1, vl_int bm.2.2.1]
  · rw [sq_gt bk.2.2.1 bm.2.2.1, vl_int bk.2.2.1, vl_int bm.2.2.1]
theorem c_steep (kk : KonC MA MB MC X) (q : Lo h r M) (w : CLn h r L n) (hn : n ≤ M) (hM : M ≤ 60000) {k m : Nat} (hk : k < n) (hm : m < n) (bk : LBd MA MB MC (L k)) (bm : LBd MA MB MC (L m)) : ∃ z, fX1_steepness r (i32 k) (i32 m) h = some (i32 (sg z), h) ∧ (sg z < 0 ↔ sl (L k) < sl (L m)) ∧ (0 < sg z ↔ sl (L m) < sl (L k)) := by
  have u1 := mul_b bk.2.1 (N := MC) (b := lnC (L m)) ⟨by have := bm.2.2.1; have := bm.2.2.2; omega, bm.2.2.2⟩
  have u2 := mul_b bm.2.1 (N := MC) (b := lnC (L k)) ⟨by have := bk.2.2.1; have := bk.2.2.2; omega, bk.2.2.2⟩
  have k3 := kk.2.2.1
  refine ⟨lnB (L k) * lnC (L m) - lnB (L m) * lnC (L k), ?_, ?_, ?_⟩
  · unfold fX1_steepness
    have e1 := nat_i k (by omega)
    have e2 := nat_i m (by omega)
    have x1 : ix (i32 k) M := ix_i (by omega) (by omega) (by omega)
    have x2 : ix (i32 m) M := ix_i (by omega) (by omega) (by omega)
    have wk := w k hk
    have wm := w m hm
    simp only [q.1, q.2.1 4 (by decide) (by decide), q.2.1 5 (by decide) (by decide), q.2.2.2.2.2.1.1, q.2.2.2.2.2.1.2, q.2.2.2.2.2.2.1.1, q.2.2.2.2.2.2.1.2, e1, e2, if_pos x1, if_pos x2, wk.2.2.2.1, wk.2.2.2.2, wm.2.2.2.1, wm.2.2.2.2, i64_mul, reduceIte]
    rw [c_cmp ⟨by omega, by omega⟩ ⟨by omega, by omega⟩, bd_some]
  · rw [sq_lt bk.2.2.1 bm.2.2.1]; exact Iff.rfl
  · rw [sq_gt bk.2.2.1 bm.2.2.1]; exact Iff.rfl
end CL
