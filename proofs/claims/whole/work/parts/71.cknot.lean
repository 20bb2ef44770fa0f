/-! THE CLASS' addKnot -/
def AX (h : xH) (s r _k : Nat) : Prop := r = s ∨ ∃ j, 1 ≤ j ∧ j ≤ 5 ∧ r = hR h s j
theorem c_b113 {h : xH} {s n cap : Nat} (S : Sh h s cap) (hn : n < cap) (hcap : cap ≤ 60000) (c : hI h s 0 = i32 (n : Int)) (v : Int32) : fX4_addKnot_b113 v (i32 (n : Int)) (hR h s 5) s h = some ((), sI (sI h (hR h s 5) n v) s 0 (i32 ((n : Int) + 1))) := by
  unfold fX4_addKnot_b113
  have e1 := nat_i n (by omega)
  have x1 : ix (i32 (n : Int)) cap := ix_i (by omega) (by omega) (by omega)
  have ne : ¬ (s = hR h s 5 ∧ 0 = n) := fun z => by have := S.2.2.1.1; rw [← z.1, S.1] at this; omega
  rw [if_pos S.2.2.1.1, S.2.2.1.2, if_pos x1, lt_def, kc_sI, if_pos S.1, lt_def, e1, hI_sI, if_neg ne, c, one32, i32_add]
