theorem one32 : (1 : Int32) = i32 1 := rfl
theorem m_line {h : xH} (q : Mo h) {n : Nat} (hn : n < 700) (hl : hI h 220 19 = i32 n) (a b : Int32) (A B C : Int64) : fX7_line 220 a b A B C h = some ((), sI (sJ (sJ (sJ (sI (sI h 235 n a) 236 n b) 237 n A) 238 n B) 239 n C) 220 19 (i32 ((n : Int) + 1))) := by
  unfold fX7_line
  have e := nat_i n (by omega)
  have x1 : ix (i32 n) 700 := ix_i (by omega) (by omega) (by decide)
  simp only [lt_def, kc_sI, kc_sJ, kl_sI, kl_sJ, hR_sI, hR_sJ, hI_sJ, hI_sI, q.k220, q.r20, q.r21, q.r22, q.r23, q.r24, q.k235, q.k236, q.k237, q.k238, q.k239, q.l235, q.l236, q.l237, q.l238, q.l239, hl, e, Nat.reduceEqDiff, false_and, reduceIte, if_pos x1, one32, i32_add, not_false_eq_true]
