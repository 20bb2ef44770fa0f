/-! THE CLASS' addEnd, meetAt -/
def Apt (h : xH) (s r : Nat) : Prop := ∀ j, j ≤ 6 → r + j ≠ s ∧ ∀ i, 1 ≤ i → i ≤ 5 → r + j ≠ hR h s i
theorem Apt.ax {h : xH} {s r : Nat} (a : Apt h s r) {j : Nat} (hj : j ≤ 6) (k : Nat) : ¬ AX h s (r + j) k := by
  intro z
  rcases z with z | ⟨i, i1, i2, z⟩
  · exact (a j hj).1 z
  · exact (a j hj).2 i i1 i2 z
theorem Lo.lt {h : xH} {r M : Nat} (q : Lo h r M) {j : Nat} (hj : j ≤ 6) : r + j < hnx h := by
  obtain ⟨a0, _, a1, a2, a3, a4, a5, a6⟩ := q
  rcases (show j = 0 ∨ j = 1 ∨ j = 2 ∨ j = 3 ∨ j = 4 ∨ j = 5 ∨ j = 6 by omega) with z | z | z | z | z | z | z <;> rw [z]
  · exact kc_lt a0 (by decide)
  · exact kc_lt a1.1 (by decide)
  · exact kc_lt a2.1 (by decide)
  · exact kc_lt a3.1 (by decide)
  · exact kc_lt a4.1 (by decide)
  · exact kc_lt a5.1 (by decide)
  · exact kc_lt a6.1 (by decide)
theorem Apt.st {h h' : xH} {s r M cap cap' : Nat} (a : Apt h s r) (q : Lo h r M) (t : SSt h h' s cap cap') : Apt h' s r := by
  intro j hj
  refine ⟨(a j hj).1, fun i i1 i2 => ?_⟩
  have := q.lt hj
  rcases t.2.1 i i1 i2 with y | y
  · rw [y]; exact (a j hj).2 i i1 i2
  · omega
theorem Lo.st {h h' : xH} {s r M cap cap' : Nat} (q : Lo h r M) (a : Apt h s r) (t : SSt h h' s cap cap') : Lo h' r M := by
  have e : ∀ j, j ≤ 6 → xkd h' (r + j) = xkd h (r + j) := fun j hj => t.2.2.1.xkd (q.lt hj)
  have e1 : ∀ j, j ≤ 6 → kc h' (r + j) = kc h (r + j) := fun j hj => by unfold kc; rw [e j hj]
  have e2 : ∀ j, j ≤ 6 → kl h' (r + j) = kl h (r + j) := fun j hj => by unfold kl; rw [e j hj]
  have e3 : ∀ k, hR h' r k = hR h r k := fun k => (t.2.2.2 r k (q.lt (j := 0) (by decide)) (a.ax (j := 0) (by decide) k)).2.2
  obtain ⟨a0, b, a1, a2, a3, a4, a5, a6⟩ := q
  refine ⟨(e1 0 (by decide)).trans a0, fun k k1 k2 => (e3 k).trans (b k k1 k2), ?_, ?_, ?_, ?_, ?_, ?_⟩
  · rw [e1 1 (by decide), e2 1 (by decide)]; exact a1
  · rw [e1 2 (by decide), e2 2 (by decide)]; exact a2
  · rw [e1 3 (by decide), e2 3 (by decide)]; exact a3
  · rw [e1 4 (by decide), e2 4 (by decide)]; exact a4
  · rw [e1 5 (by decide), e2 5 (by decide)]; exact a5
  · rw [e1 6 (by decide), e2 6 (by decide)]; exact a6
theorem st_at {h h' : xH} {s r M cap cap' : Nat} (q : Lo h r M) (a : Apt h s r) (t : SSt h h' s cap cap') {j : Nat} (hj : j ≤ 6) (k : Nat) : hI h' (r + j) k = hI h (r + j) k ∧ hJ h' (r + j) k = hJ h (r + j) k := ⟨(t.2.2.2 (r + j) k (q.lt hj) (a.ax hj k)).1, (t.2.2.2 (r + j) k (q.lt hj) (a.ax hj k)).2.1⟩
theorem st_0 {h h' : xH} {s r M cap cap' : Nat} (q : Lo h r M) (a : Apt h s r) (t : SSt h h' s cap cap') (k : Nat) : hI h' r k = hI h r k := (st_at q a t (j := 0) (by decide) k).1
theorem CLn.st {h h' : xH} {s r M n cap cap' : Nat} {L : Nat → Ln} (w : CLn h r L n) (q : Lo h r M) (a : Apt h s r) (t : SSt h h' s cap cap') : CLn h' r L n := by
  intro k hk
  have u := w k hk
  rw [(st_at q a t (j := 1) (by decide) k).1, (st_at q a t (j := 2) (by decide) k).1, (st_at q a t (j := 3) (by decide) k).2, (st_at q a t (j := 4) (by decide) k).2, (st_at q a t (j := 5) (by decide) k).2]
  exact u
theorem LsI.st {h h' : xH} {s r M cap cap' : Nat} {ls : List Nat} (w : LsI h r ls) (q : Lo h r M) (a : Apt h s r) (t : SSt h h' s cap cap') : LsI h' r ls := by
  refine ⟨by rw [st_0 q a t 7]; exact w.1, fun i o e => ?_⟩
  rw [(st_at q a t (j := 6) (by decide) i).1]; exact w.2 i o e
def oL (L : Nat → Ln) (x : Rat) (b : Int) : Option (Rat × Rat) := if b < 0 then none else some (vl (L b.toNat) x, sl (L b.toNat))
def Ixn (n : Nat) (b : Int) : Prop := b = -1 ∨ ∃ k : Nat, b = k ∧ k < n
theorem oL_no (L : Nat → Ln) (x : Rat) : oL L x (-1) = none := rfl
theorem oL_at (L : Nat → Ln) (x : Rat) (k : Nat) : oL L x (k : Int) = some (vl (L k) x, sl (L k)) := by
  unfold oL
  rw [if_neg (by omega), Int.toNat_natCast]
theorem ineg : i32 (-1) < 0 := by decide
theorem inn {k : Nat} (hk : k ≤ 60000) : ¬ i32 (k : Int) < 0 := fun z => by
  have := (i32_lt (b := 0) ⟨by omega, by omega⟩ ⟨by decide, by decide⟩).mp z
  omega
def em (L : Nat → Ln) (x : Rat) (b : Int) (g : Bool) : List Kn := ((oL L x b).map (fun w => (x, w.1, g))).toList
section CM
variable {MA MB MC X : Int} {L : Nat → Ln} {n M r s cap : Nat} {h : xH} {ks : List Kn} {x : Int}
theorem c_addEnd (kk : KonC MA MB MC X) (q : Lo h r M) (w : CLn h r L n) (hn : n ≤ M) (hM : M ≤ 60000) (bL : ∀ k, k < n → LBd MA MB MC (L k)) (hC : MC ≤ 4611686018427387904) (W : ShK h s cap ks) (hl : ks.length < 1600) {k : Nat} (hk : k < n) (hx : -X ≤ x ∧ x ≤ X) (g : Bool) : ∃ h' cap', fX1_addEnd r s (i32 x) (i32 k) (bz g) h = some ((), h') ∧ ShK h' s cap' (ks ++ [((x : Rat), vl (L k) x, g)]) ∧ SSt h h' s cap cap' := by
  have bk := bL k hk
  have k4 := kk.2.2.2
  have u2 := mul_b bk.2.1 hx
  have k1 := kk.1
  have qy : Q (lnA (L k) + lnB (L k) * x) := ⟨by have := bk.1; omega, by have := bk.1; omega⟩
  obtain ⟨h', cap', E, A, B⟩ := c_addKnot W hl (a := x) (b := 1) (c := lnA (L k) + lnB (L k) * x) (d := lnC (L k)) ⟨by omega, by omega⟩ ⟨by decide, by decide⟩ (by decide) qy ⟨by have := bk.2.2.1; omega, by have := bk.2.2.2; omega⟩ bk.2.2.1 g
  refine ⟨h', cap', ?_, ?_, B⟩
  · unfold fX1_addEnd
    have e1 := nat_i k (by omega)
    have x1 : ix (i32 k) M := ix_i (by omega) (by omega) (by omega)
    have wk := w k hk
    have ex : (i32 x).toInt64 = i64 x := i64_of32 ⟨by omega, by omega⟩
    simp only [q.1, q.2.1 3 (by decide) (by decide), q.2.1 4 (by decide) (by decide), q.2.1 5 (by decide) (by decide), q.2.2.2.2.1.1, q.2.2.2.2.1.2, q.2.2.2.2.2.1.1, q.2.2.2.2.2.1.2, q.2.2.2.2.2.2.1.1, q.2.2.2.2.2.2.1.2, e1, if_pos x1, wk.2.2.1, wk.2.2.2.1, wk.2.2.2.2, ex, i64_mul, i64_add, W.1.1, reduceIte, o64]
    rw [E, bd_some]
  · rw [rat_1, vl_int bk.2.2.1] at A
    exact A
end CM
