def fX1_init   (a0 : Nat) (a1 : Int32) (h : xH) : Option (Unit × xH) :=
  if kc h a0 = 1 then
  lt (sI h a0 0 (0 : Int32)) (fun g2 =>
  lt (sI g2 a0 7 (0 : Int32)) (fun g5 =>
  lt (sI g5 a0 8 (-1 : Int32)) (fun g8 =>
  lt (sI g8 a0 9 (2147483647 : Int32)) (fun g11 =>
  if ¬ a1 < 0 ∧ a1.toNatClampNeg ≤ 60000 then
  lt (hnx g11) (fun q15 => lt (hnew g11 8 a1.toNatClampNeg) (fun g14 =>
  lt (sR g14 a0 1 q15) (fun g19 =>
  if ¬ a1 < 0 ∧ a1.toNatClampNeg ≤ 60000 then
  lt (hnx g19) (fun q23 => lt (hnew g19 8 a1.toNatClampNeg) (fun g22 =>
  lt (sR g22 a0 2 q23) (fun g27 =>
  if ¬ a1 < 0 ∧ a1.toNatClampNeg ≤ 60000 then
  lt (hnx g27) (fun q31 => lt (hnew g27 9 a1.toNatClampNeg) (fun g30 =>
  lt (sR g30 a0 3 q31) (fun g35 =>
  if ¬ a1 < 0 ∧ a1.toNatClampNeg ≤ 60000 then
  lt (hnx g35) (fun q39 => lt (hnew g35 9 a1.toNatClampNeg) (fun g38 =>
  lt (sR g38 a0 4 q39) (fun g43 =>
  if ¬ a1 < 0 ∧ a1.toNatClampNeg ≤ 60000 then
  lt (hnx g43) (fun q47 => lt (hnew g43 9 a1.toNatClampNeg) (fun g46 =>
  lt (sR g46 a0 5 q47) (fun g51 =>
  if ¬ a1 < 0 ∧ a1.toNatClampNeg ≤ 60000 then
  lt (hnx g51) (fun q55 => lt (hnew g51 8 a1.toNatClampNeg) (fun g54 =>
  lt (sR g54 a0 6 q55) (fun g59 =>
  some ((), g59))))
  else none)))
  else none)))
  else none)))
  else none)))
  else none)))
  else none))))
  else none
theorem pX1_init_e    (a0 : Nat) (a1 : Int32) (h : xH) : S emV kX1_init h 0 [(0, .ref a0), (1, .int a1)] [] h (fX1_init  a0 a1 h) := by
  unfold fX1_init
  refine s_aload_n (pc := 0) (k0 := 0) (i := 0) rfl 0 rfl (by decide +kernel) ?_
  refine S_gd (fun c1 => ?_)
  refine s_objInit (pc := 1) (index := 3) (k2r c1 (by decide)) ml_X1_3 oi_1 oi_2 (by decide) (by decide +kernel) ?_
  refine s_aload_n (pc := 4) (k0 := 0) (i := 0) rfl 0 rfl (by decide +kernel) ?_
  refine s_iconst (pc := 5) (n := 0) (v := (0 : Int32)) (by decide) (by decide +kernel) ?_
  refine s_putI (pc := 6) (k := 0) c1 ft_X1_9 (fw_1_0 _ _) rfl rfl (by decide +kernel) ?_
  refine s_nmH (o := h) rfl (fun g2 e3 => ?_)
  refine s_aload_n (pc := 9) (k0 := 0) (i := 0) rfl 0 rfl (by decide +kernel) ?_
  refine s_iconst (pc := 10) (n := 0) (v := (0 : Int32)) (by decide) (by decide +kernel) ?_
  have c4 := kp e3 c1 (by decide)
  refine s_putI (pc := 11) (k := 7) c4 ft_X1_15 (fw_1_7 _ _) rfl rfl (by decide +kernel) ?_
  refine s_nmH (o := g2) rfl (fun g5 e6 => ?_)
  refine s_aload_n (pc := 14) (k0 := 0) (i := 0) rfl 0 rfl (by decide +kernel) ?_
  refine s_iconst (pc := 15) (n := -1) (v := (-1 : Int32)) (by decide) (by decide +kernel) ?_
  have c7 := kp e6 c4 (by decide)
  refine s_putI (pc := 16) (k := 8) c7 ft_X1_18 (fw_1_8 _ _) rfl rfl (by decide +kernel) ?_
  refine s_nmH (o := g5) rfl (fun g8 e9 => ?_)
  refine s_aload_n (pc := 19) (k0 := 0) (i := 0) rfl 0 rfl (by decide +kernel) ?_
  refine s_ldc (pc := 20) (v := (2147483647 : Int32)) (index := 21) (gd_of 140 (by decide +kernel) rfl) (by decide +kernel) ?_
  have c10 := kp e9 c7 (by decide)
  refine s_putI (pc := 22) (k := 9) c10 ft_X1_22 (fw_1_9 _ _) rfl rfl (by decide +kernel) ?_
  refine s_nmH (o := g8) rfl (fun g11 e12 => ?_)
  refine s_aload_n (pc := 25) (k0 := 0) (i := 0) rfl 0 rfl (by decide +kernel) ?_
  refine s_iload_n (pc := 26) (k0 := 1) (i := 1) rfl 1 rfl (by decide +kernel) ?_
  refine S_gd (fun c13 => ?_)
  refine s_newI (pc := 27) c13 (by decide +kernel) ?_
  refine s_nmN (fun q15 g14 c17 e16 => ?_)
  have c18 := kp (Le.tr e12 e16) c10 (by decide)
  refine s_putR (pc := 29) (k := 1) c18 ft_X1_25 fwF_1_1 rfl rfl (by decide +kernel) ?_
  refine s_nmH (o := g14) rfl (fun g19 e20 => ?_)
  refine s_aload_n (pc := 32) (k0 := 0) (i := 0) rfl 0 rfl (by decide +kernel) ?_
  refine s_iload_n (pc := 33) (k0 := 1) (i := 1) rfl 1 rfl (by decide +kernel) ?_
  refine S_gd (fun c21 => ?_)
  refine s_newI (pc := 34) c21 (by decide +kernel) ?_
  refine s_nmN (fun q23 g22 c25 e24 => ?_)
  have c26 := kp (Le.tr e20 e24) c18 (by decide)
  refine s_putR (pc := 36) (k := 2) c26 ft_X1_29 fwF_1_2 rfl rfl (by decide +kernel) ?_
  refine s_nmH (o := g22) rfl (fun g27 e28 => ?_)
  refine s_aload_n (pc := 39) (k0 := 0) (i := 0) rfl 0 rfl (by decide +kernel) ?_
  refine s_iload_n (pc := 40) (k0 := 1) (i := 1) rfl 1 rfl (by decide +kernel) ?_
  refine S_gd (fun c29 => ?_)
  refine s_newJ (pc := 41) c29 (by decide +kernel) ?_
  refine s_nmN (fun q31 g30 c33 e32 => ?_)
  have c34 := kp (Le.tr e28 e32) c26 (by decide)
  refine s_putR (pc := 43) (k := 3) c34 ft_X1_32 fwF_1_3 rfl rfl (by decide +kernel) ?_
  refine s_nmH (o := g30) rfl (fun g35 e36 => ?_)
  refine s_aload_n (pc := 46) (k0 := 0) (i := 0) rfl 0 rfl (by decide +kernel) ?_
  refine s_iload_n (pc := 47) (k0 := 1) (i := 1) rfl 1 rfl (by decide +kernel) ?_
  refine S_gd (fun c37 => ?_)
  refine s_newJ (pc := 48) c37 (by decide +kernel) ?_
  refine s_nmN (fun q39 g38 c41 e40 => ?_)
  have c42 := kp (Le.tr e36 e40) c34 (by decide)
  refine s_putR (pc := 50) (k := 4) c42 ft_X1_36 fwF_1_4 rfl rfl (by decide +kernel) ?_
  refine s_nmH (o := g38) rfl (fun g43 e44 => ?_)
  refine s_aload_n (pc := 53) (k0 := 0) (i := 0) rfl 0 rfl (by decide +kernel) ?_
  refine s_iload_n (pc := 54) (k0 := 1) (i := 1) rfl 1 rfl (by decide +kernel) ?_
  refine S_gd (fun c45 => ?_)
  refine s_newJ (pc := 55) c45 (by decide +kernel) ?_
  refine s_nmN (fun q47 g46 c49 e48 => ?_)
  have c50 := kp (Le.tr e44 e48) c42 (by decide)
  refine s_putR (pc := 57) (k := 5) c50 ft_X1_39 fwF_1_5 rfl rfl (by decide +kernel) ?_
  refine s_nmH (o := g46) rfl (fun g51 e52 => ?_)
  refine s_aload_n (pc := 60) (k0 := 0) (i := 0) rfl 0 rfl (by decide +kernel) ?_
  refine s_iload_n (pc := 61) (k0 := 1) (i := 1) rfl 1 rfl (by decide +kernel) ?_
  refine S_gd (fun c53 => ?_)
  refine s_newI (pc := 62) c53 (by decide +kernel) ?_
  refine s_nmN (fun q55 g54 c57 e56 => ?_)
  have c58 := kp (Le.tr e52 e56) c50 (by decide)
  refine s_putR (pc := 64) (k := 6) c58 ft_X1_42 fwF_1_6 rfl rfl (by decide +kernel) ?_
  refine s_nmH (o := g54) rfl (fun g59 e60 => ?_)
  exact s_vret (pc := 67) rfl (by decide +kernel)
theorem tX1_init (a0 : Nat) (a1 : Int32) (h : xH) : Ct yX1_init kX1_init emV [.ref a0, .int a1] h (fX1_init a0 a1 h) := Ct_of (by decide +kernel) rfl rfl rfl (Nat.le_of_ble_eq_true rfl) rfl (pX1_init_e a0 a1 h)
def fX1_start   (a0 : Nat) (h : xH) : Option (Unit × xH) :=
  if kc h a0 = 1 then
  lt (sI h a0 0 (0 : Int32)) (fun g2 =>
  some ((), g2))
  else none
theorem pX1_start_e    (a0 : Nat) (h : xH) : S emV kX1_start h 0 [(0, .ref a0)] [] h (fX1_start  a0 h) := by
  unfold fX1_start
  refine s_aload_n (pc := 0) (k0 := 0) (i := 0) rfl 0 rfl (by decide +kernel) ?_
  refine s_iconst (pc := 1) (n := 0) (v := (0 : Int32)) (by decide) (by decide +kernel) ?_
  refine S_gd (fun c1 => ?_)
  refine s_putI (pc := 2) (k := 0) c1 ft_X1_9 (fw_1_0 _ _) rfl rfl (by decide +kernel) ?_
  refine s_nmH (o := h) rfl (fun g2 e3 => ?_)
  exact s_vret (pc := 5) rfl (by decide +kernel)
theorem tX1_start (a0 : Nat) (h : xH) : Ct yX1_start kX1_start emV [.ref a0] h (fX1_start a0 h) := Ct_of (by decide +kernel) rfl rfl rfl (Nat.le_of_ble_eq_true rfl) rfl (pX1_start_e a0 h)
def fX1_addLine   (a0 : Nat) (a1 : Int32) (a2 : Int32) (a3 : Int64) (a5 : Int64) (a7 : Int64) (h : xH) : Option (Unit × xH) :=
  if kc h a0 = 1 then
  if kc h (hR h a0 1) = 8 then
  if (Int32.ofNat (kl h (hR h a0 1))) ≤ (hI h a0 0) then (
  some ((), h))
  else (
  if (lg_cmp a7 (0 : Int64)) ≤ 0 then (
  some ((), h))
  else (
  if a1 ≤ a2 then (
  if ix (hI h a0 0) (kl h (hR h a0 1)) then
  lt (sI h (hR h a0 1) (hI h a0 0).toNatClampNeg a1) (fun g4 =>
  if kc g4 (hR g4 a0 2) = 8 then
  if ix (hI g4 a0 0) (kl g4 (hR g4 a0 2)) then
  lt (sI g4 (hR g4 a0 2) (hI g4 a0 0).toNatClampNeg a2) (fun g9 =>
  if kc g9 (hR g9 a0 3) = 9 then
  if ix (hI g9 a0 0) (kl g9 (hR g9 a0 3)) then
  lt (sJ g9 (hR g9 a0 3) (hI g9 a0 0).toNatClampNeg a3) (fun g14 =>
  if kc g14 (hR g14 a0 4) = 9 then
  if ix (hI g14 a0 0) (kl g14 (hR g14 a0 4)) then
  lt (sJ g14 (hR g14 a0 4) (hI g14 a0 0).toNatClampNeg a5) (fun g19 =>
  if kc g19 (hR g19 a0 5) = 9 then
  if ix (hI g19 a0 0) (kl g19 (hR g19 a0 5)) then
  lt (sJ g19 (hR g19 a0 5) (hI g19 a0 0).toNatClampNeg a7) (fun g24 =>
  lt (sI g24 a0 0 ((hI g24 a0 0) + (1 : Int32))) (fun g27 =>
  some ((), g27)))
  else none
  else none)
  else none
  else none)
  else none
  else none)
  else none
  else none)
  else none)
  else (
  some ((), h))))
  else none
  else none
theorem pX1_addLine_e    (a0 : Nat) (a1 : Int32) (a2 : Int32) (a3 : Int64) (a5 : Int64) (a7 : Int64) (h : xH) : S emV kX1_addLine h 0 [(0, .ref a0), (1, .int a1), (2, .int a2), (3, .long a3), (5, .long a5), (7, .long a7)] [] h (fX1_addLine  a0 a1 a2 a3 a5 a7 h) := by
  unfold fX1_addLine
  refine s_aload_n (pc := 0) (k0 := 0) (i := 0) rfl 0 rfl (by decide +kernel) ?_
  refine S_gd (fun c1 => ?_)
  refine s_getI (pc := 1) (k := 0) c1 ft_X1_9 rfl (by decide +kernel) ?_
  refine s_aload_n (pc := 4) (k0 := 0) (i := 0) rfl 0 rfl (by decide +kernel) ?_
  refine s_getR (pc := 5) (k := 1) c1 ft_X1_25 rfl (by decide +kernel) ?_
  refine S_gd (fun c2 => ?_)
  refine s_alen (pc := 8) (by rw [c2]; decide) (by decide +kernel) ?_
  refine s_icmp_ge (pc := 9) (off := 15) 24 (by decide +kernel) (by decide) (fun _ => ?_) (fun _ => ?_)
  · exact s_vret (pc := 24) rfl (by decide +kernel)
  · refine s_lload (pc := 12) (i := 7) 5 rfl (by decide +kernel) ?_
    refine s_lconst (pc := 14) (n := 0) (v := (0 : Int64)) (by decide) (by decide +kernel) ?_
    refine s_lcmp (pc := 15) (by decide +kernel) ?_
    refine s_if_le (pc := 16) (off := 8) 24 (by decide +kernel) (by decide) (fun _ => ?_) (fun _ => ?_)
    · exact s_vret (pc := 24) rfl (by decide +kernel)
    · refine s_iload_n (pc := 19) (k0 := 1) (i := 1) rfl 1 rfl (by decide +kernel) ?_
      refine s_iload_n (pc := 20) (k0 := 2) (i := 2) rfl 2 rfl (by decide +kernel) ?_
      refine s_icmp_le (pc := 21) (off := 4) 25 (by decide +kernel) (by decide) (fun _ => ?_) (fun _ => ?_)
      · refine s_aload_n (pc := 25) (k0 := 0) (i := 0) rfl 0 rfl (by decide +kernel) ?_
        refine s_getR (pc := 26) (k := 1) c1 ft_X1_25 rfl (by decide +kernel) ?_
        refine s_aload_n (pc := 29) (k0 := 0) (i := 0) rfl 0 rfl (by decide +kernel) ?_
        refine s_getI (pc := 30) (k := 0) c1 ft_X1_9 rfl (by decide +kernel) ?_
        refine s_iload_n (pc := 33) (k0 := 1) (i := 1) rfl 1 rfl (by decide +kernel) ?_
        refine S_gd (fun c3 => ?_)
        refine s_iast (pc := 34) c2 c3 (by decide +kernel) ?_
        refine s_nmH (o := h) rfl (fun g4 e5 => ?_)
        refine s_aload_n (pc := 35) (k0 := 0) (i := 0) rfl 0 rfl (by decide +kernel) ?_
        have c6 := kp e5 c1 (by decide)
        refine s_getR (pc := 36) (k := 2) c6 ft_X1_29 rfl (by decide +kernel) ?_
        refine s_aload_n (pc := 39) (k0 := 0) (i := 0) rfl 0 rfl (by decide +kernel) ?_
        refine s_getI (pc := 40) (k := 0) c6 ft_X1_9 rfl (by decide +kernel) ?_
        refine s_iload_n (pc := 43) (k0 := 2) (i := 2) rfl 2 rfl (by decide +kernel) ?_
        refine S_gd (fun c7 => ?_)
        refine S_gd (fun c8 => ?_)
        refine s_iast (pc := 44) c7 c8 (by decide +kernel) ?_
        refine s_nmH (o := g4) rfl (fun g9 e10 => ?_)
        refine s_aload_n (pc := 45) (k0 := 0) (i := 0) rfl 0 rfl (by decide +kernel) ?_
        have c11 := kp e10 c6 (by decide)
        refine s_getR (pc := 46) (k := 3) c11 ft_X1_32 rfl (by decide +kernel) ?_
        refine s_aload_n (pc := 49) (k0 := 0) (i := 0) rfl 0 rfl (by decide +kernel) ?_
        refine s_getI (pc := 50) (k := 0) c11 ft_X1_9 rfl (by decide +kernel) ?_
        refine s_lload_n (pc := 53) (k0 := 3) (i := 3) rfl 3 rfl (by decide +kernel) ?_
        refine S_gd (fun c12 => ?_)
        refine S_gd (fun c13 => ?_)
        refine s_last (pc := 54) c12 c13 (by decide +kernel) ?_
        refine s_nmH (o := g9) rfl (fun g14 e15 => ?_)
        refine s_aload_n (pc := 55) (k0 := 0) (i := 0) rfl 0 rfl (by decide +kernel) ?_
        have c16 := kp e15 c11 (by decide)
        refine s_getR (pc := 56) (k := 4) c16 ft_X1_36 rfl (by decide +kernel) ?_
        refine s_aload_n (pc := 59) (k0 := 0) (i := 0) rfl 0 rfl (by decide +kernel) ?_
        refine s_getI (pc := 60) (k := 0) c16 ft_X1_9 rfl (by decide +kernel) ?_
        refine s_lload (pc := 63) (i := 5) 4 rfl (by decide +kernel) ?_
        refine S_gd (fun c17 => ?_)
        refine S_gd (fun c18 => ?_)
        refine s_last (pc := 65) c17 c18 (by decide +kernel) ?_
        refine s_nmH (o := g14) rfl (fun g19 e20 => ?_)
        refine s_aload_n (pc := 66) (k0 := 0) (i := 0) rfl 0 rfl (by decide +kernel) ?_
        have c21 := kp e20 c16 (by decide)
        refine s_getR (pc := 67) (k := 5) c21 ft_X1_39 rfl (by decide +kernel) ?_
        refine s_aload_n (pc := 70) (k0 := 0) (i := 0) rfl 0 rfl (by decide +kernel) ?_
        refine s_getI (pc := 71) (k := 0) c21 ft_X1_9 rfl (by decide +kernel) ?_
        refine s_lload (pc := 74) (i := 7) 5 rfl (by decide +kernel) ?_
        refine S_gd (fun c22 => ?_)
        refine S_gd (fun c23 => ?_)
        refine s_last (pc := 76) c22 c23 (by decide +kernel) ?_
        refine s_nmH (o := g19) rfl (fun g24 e25 => ?_)
        refine s_aload_n (pc := 77) (k0 := 0) (i := 0) rfl 0 rfl (by decide +kernel) ?_
        refine s_dup_a (pc := 78) (by decide +kernel) ?_
        have c26 := kp e25 c21 (by decide)
        refine s_getI (pc := 79) (k := 0) c26 ft_X1_9 rfl (by decide +kernel) ?_
        refine s_iconst (pc := 82) (n := 1) (v := (1 : Int32)) (by decide) (by decide +kernel) ?_
        refine s_iadd (pc := 83) (by decide +kernel) ?_
        refine s_putI (pc := 84) (k := 0) c26 ft_X1_9 (fw_1_0 _ _) rfl rfl (by decide +kernel) ?_
        refine s_nmH (o := g24) rfl (fun g27 e28 => ?_)
        exact s_vret (pc := 87) rfl (by decide +kernel)
      · exact s_vret (pc := 24) rfl (by decide +kernel)
theorem tX1_addLine (a0 : Nat) (a1 : Int32) (a2 : Int32) (a3 : Int64) (a5 : Int64) (a7 : Int64) (h : xH) : Ct yX1_addLine kX1_addLine emV [.ref a0, .int a1, .int a2, .long a3, .long a5, .long a7] h (fX1_addLine a0 a1 a2 a3 a5 a7 h) := Ct_of (by decide +kernel) rfl rfl rfl (Nat.le_of_ble_eq_true rfl) rfl (pX1_addLine_e a0 a1 a2 a3 a5 a7 h)
def fX1_addBetween   (a0 : Nat) (a1 : Int64) (a3 : Int64) (a5 : Int64) (a7 : Int64) (h : xH) : Option (Unit × xH) :=
  if (lg_cmp a5 (0 : Int64)) = 0 then (
  if kc h a0 = 1 then
  bd (fX1_addLine a0 a1.toInt32 a1.toInt32 a3 (0 : Int64) (1 : Int64) h) (fun _ g5 =>
  some ((), g5))
  else none)
  else (
  if kc h a0 = 1 then
  bd (fX1_addLine a0 a1.toInt32 ((a1 + a5).toInt32) ((a3 * a5) - (a7 * a1)) a7 a5 h) (fun _ g2 =>
  some ((), g2))
  else none)
theorem pX1_addBetween_e    (a0 : Nat) (a1 : Int64) (a3 : Int64) (a5 : Int64) (a7 : Int64) (h : xH) : S emV kX1_addBetween h 0 [(0, .ref a0), (1, .long a1), (3, .long a3), (5, .long a5), (7, .long a7)] [] h (fX1_addBetween  a0 a1 a3 a5 a7 h) := by
  unfold fX1_addBetween
  refine s_lload (pc := 0) (i := 5) 3 rfl (by decide +kernel) ?_
  refine s_lconst (pc := 2) (n := 0) (v := (0 : Int64)) (by decide) (by decide +kernel) ?_
  refine s_lcmp (pc := 3) (by decide +kernel) ?_
  refine s_if_ne (pc := 4) (off := 17) 21 (by decide +kernel) (by decide) (fun _ => ?_) (fun _ => ?_)
  · refine s_aload_n (pc := 7) (k0 := 0) (i := 0) rfl 0 rfl (by decide +kernel) ?_
    refine s_lload_n (pc := 8) (k0 := 1) (i := 1) rfl 1 rfl (by decide +kernel) ?_
    refine s_l2i (pc := 9) (by decide +kernel) ?_
    refine s_lload_n (pc := 10) (k0 := 1) (i := 1) rfl 1 rfl (by decide +kernel) ?_
    refine s_l2i (pc := 11) (by decide +kernel) ?_
    refine s_lload_n (pc := 12) (k0 := 3) (i := 3) rfl 2 rfl (by decide +kernel) ?_
    refine s_lconst (pc := 13) (n := 0) (v := (0 : Int64)) (by decide) (by decide +kernel) ?_
    refine s_lconst (pc := 14) (n := 1) (v := (1 : Int64)) (by decide) (by decide +kernel) ?_
    refine S_gd (fun c4 => ?_)
    refine s_cVv (pc := 15) [.int a1.toInt32, .int a1.toInt32, .long a3, .long (0 : Int64), .long (1 : Int64)] (tX1_addLine a0 a1.toInt32 a1.toInt32 a3 (0 : Int64) (1 : Int64) h) c4 cw_X1_45 rfl ⟨⟨Nat.le_of_ble_eq_true rfl, Nat.le_of_ble_eq_true rfl⟩, Nat.le_of_ble_eq_true rfl⟩ rfl (by decide +kernel) (fun _ g5 e6 => ?_)
    refine s_goto (pc := 18) (off := 27) 45 (by decide +kernel) (by decide) ?_
    exact s_vret (pc := 45) rfl (by decide +kernel)
  · refine s_aload_n (pc := 21) (k0 := 0) (i := 0) rfl 0 rfl (by decide +kernel) ?_
    refine s_lload_n (pc := 22) (k0 := 1) (i := 1) rfl 1 rfl (by decide +kernel) ?_
    refine s_l2i (pc := 23) (by decide +kernel) ?_
    refine s_lload_n (pc := 24) (k0 := 1) (i := 1) rfl 1 rfl (by decide +kernel) ?_
    refine s_lload (pc := 25) (i := 5) 3 rfl (by decide +kernel) ?_
    refine s_ladd (pc := 27) (by decide +kernel) ?_
    refine s_l2i (pc := 28) (by decide +kernel) ?_
    refine s_lload_n (pc := 29) (k0 := 3) (i := 3) rfl 2 rfl (by decide +kernel) ?_
    refine s_lload (pc := 30) (i := 5) 3 rfl (by decide +kernel) ?_
    refine s_lmul (pc := 32) (by decide +kernel) ?_
    refine s_lload (pc := 33) (i := 7) 4 rfl (by decide +kernel) ?_
    refine s_lload_n (pc := 35) (k0 := 1) (i := 1) rfl 1 rfl (by decide +kernel) ?_
    refine s_lmul (pc := 36) (by decide +kernel) ?_
    refine s_lsub (pc := 37) (by decide +kernel) ?_
    refine s_lload (pc := 38) (i := 7) 4 rfl (by decide +kernel) ?_
    refine s_lload (pc := 40) (i := 5) 3 rfl (by decide +kernel) ?_
    refine S_gd (fun c1 => ?_)
    refine s_cVv (pc := 42) [.int a1.toInt32, .int ((a1 + a5).toInt32), .long ((a3 * a5) - (a7 * a1)), .long a7, .long a5] (tX1_addLine a0 a1.toInt32 ((a1 + a5).toInt32) ((a3 * a5) - (a7 * a1)) a7 a5 h) c1 cw_X1_45 rfl ⟨⟨Nat.le_of_ble_eq_true rfl, Nat.le_of_ble_eq_true rfl⟩, Nat.le_of_ble_eq_true rfl⟩ rfl (by decide +kernel) (fun _ g2 e3 => ?_)
    exact s_vret (pc := 45) rfl (by decide +kernel)
theorem tX1_addBetween (a0 : Nat) (a1 : Int64) (a3 : Int64) (a5 : Int64) (a7 : Int64) (h : xH) : Ct yX1_addBetween kX1_addBetween emV [.ref a0, .long a1, .long a3, .long a5, .long a7] h (fX1_addBetween a0 a1 a3 a5 a7 h) := Ct_of (by decide +kernel) rfl rfl rfl (Nat.le_of_ble_eq_true rfl) rfl (pX1_addBetween_e a0 a1 a3 a5 a7 h)
def fX1_orderAt   (a0 : Nat) (a1 : Int32) (a2 : Int32) (a3 : Int32) (h : xH) : Option (Int32 × xH) :=
  if kc h a0 = 1 then
  if kc h (hR h a0 3) = 9 then
  if ix a1 (kl h (hR h a0 3)) then
  if kc h (hR h a0 4) = 9 then
  if ix a1 (kl h (hR h a0 4)) then
  if kc h (hR h a0 5) = 9 then
  if ix a1 (kl h (hR h a0 5)) then
  if ix a2 (kl h (hR h a0 3)) then
  if ix a2 (kl h (hR h a0 4)) then
  if ix a2 (kl h (hR h a0 5)) then
  bd (fX2_order ((hJ h (hR h a0 3) a1.toNatClampNeg) + ((hJ h (hR h a0 4) a1.toNatClampNeg) * a3.toInt64)) (hJ h (hR h a0 5) a1.toNatClampNeg) ((hJ h (hR h a0 3) a2.toNatClampNeg) + ((hJ h (hR h a0 4) a2.toNatClampNeg) * a3.toInt64)) (hJ h (hR h a0 5) a2.toNatClampNeg) h) (fun w13 g11 =>
  some (w13, g11))
  else none
  else none
  else none
  else none
  else none
  else none
  else none
  else none
  else none
  else none
theorem pX1_orderAt_e    (a0 : Nat) (a1 : Int32) (a2 : Int32) (a3 : Int32) (h : xH) : S emI kX1_orderAt h 0 [(0, .ref a0), (1, .int a1), (2, .int a2), (3, .int a3)] [] h (fX1_orderAt  a0 a1 a2 a3 h) := by
  unfold fX1_orderAt
  refine s_aload_n (pc := 0) (k0 := 0) (i := 0) rfl 0 rfl (by decide +kernel) ?_
  refine S_gd (fun c1 => ?_)
  refine s_getR (pc := 1) (k := 3) c1 ft_X1_32 rfl (by decide +kernel) ?_
  refine s_iload_n (pc := 4) (k0 := 1) (i := 1) rfl 1 rfl (by decide +kernel) ?_
  refine S_gd (fun c2 => ?_)
  refine S_gd (fun c3 => ?_)
  refine s_lald (pc := 5) c2 c3 (by decide +kernel) ?_
  refine s_aload_n (pc := 6) (k0 := 0) (i := 0) rfl 0 rfl (by decide +kernel) ?_
  refine s_getR (pc := 7) (k := 4) c1 ft_X1_36 rfl (by decide +kernel) ?_
  refine s_iload_n (pc := 10) (k0 := 1) (i := 1) rfl 1 rfl (by decide +kernel) ?_
  refine S_gd (fun c4 => ?_)
  refine S_gd (fun c5 => ?_)
  refine s_lald (pc := 11) c4 c5 (by decide +kernel) ?_
  refine s_iload_n (pc := 12) (k0 := 3) (i := 3) rfl 3 rfl (by decide +kernel) ?_
  refine s_i2l (pc := 13) (by decide +kernel) ?_
  refine s_lmul (pc := 14) (by decide +kernel) ?_
  refine s_ladd (pc := 15) (by decide +kernel) ?_
  refine s_aload_n (pc := 16) (k0 := 0) (i := 0) rfl 0 rfl (by decide +kernel) ?_
  refine s_getR (pc := 17) (k := 5) c1 ft_X1_39 rfl (by decide +kernel) ?_
  refine s_iload_n (pc := 20) (k0 := 1) (i := 1) rfl 1 rfl (by decide +kernel) ?_
  refine S_gd (fun c6 => ?_)
  refine S_gd (fun c7 => ?_)
  refine s_lald (pc := 21) c6 c7 (by decide +kernel) ?_
  refine s_aload_n (pc := 22) (k0 := 0) (i := 0) rfl 0 rfl (by decide +kernel) ?_
  refine s_getR (pc := 23) (k := 3) c1 ft_X1_32 rfl (by decide +kernel) ?_
  refine s_iload_n (pc := 26) (k0 := 2) (i := 2) rfl 2 rfl (by decide +kernel) ?_
  refine S_gd (fun c8 => ?_)
  refine s_lald (pc := 27) c2 c8 (by decide +kernel) ?_
  refine s_aload_n (pc := 28) (k0 := 0) (i := 0) rfl 0 rfl (by decide +kernel) ?_
  refine s_getR (pc := 29) (k := 4) c1 ft_X1_36 rfl (by decide +kernel) ?_
  refine s_iload_n (pc := 32) (k0 := 2) (i := 2) rfl 2 rfl (by decide +kernel) ?_
  refine S_gd (fun c9 => ?_)
  refine s_lald (pc := 33) c4 c9 (by decide +kernel) ?_
  refine s_iload_n (pc := 34) (k0 := 3) (i := 3) rfl 3 rfl (by decide +kernel) ?_
  refine s_i2l (pc := 35) (by decide +kernel) ?_
  refine s_lmul (pc := 36) (by decide +kernel) ?_
  refine s_ladd (pc := 37) (by decide +kernel) ?_
  refine s_aload_n (pc := 38) (k0 := 0) (i := 0) rfl 0 rfl (by decide +kernel) ?_
  refine s_getR (pc := 39) (k := 5) c1 ft_X1_39 rfl (by decide +kernel) ?_
  refine s_iload_n (pc := 42) (k0 := 2) (i := 2) rfl 2 rfl (by decide +kernel) ?_
  refine S_gd (fun c10 => ?_)
  refine s_lald (pc := 43) c6 c10 (by decide +kernel) ?_
  refine s_cSi (pc := 44) [.long ((hJ h (hR h a0 3) a1.toNatClampNeg) + ((hJ h (hR h a0 4) a1.toNatClampNeg) * a3.toInt64)), .long (hJ h (hR h a0 5) a1.toNatClampNeg), .long ((hJ h (hR h a0 3) a2.toNatClampNeg) + ((hJ h (hR h a0 4) a2.toNatClampNeg) * a3.toInt64)), .long (hJ h (hR h a0 5) a2.toNatClampNeg)] (tX2_order ((hJ h (hR h a0 3) a1.toNatClampNeg) + ((hJ h (hR h a0 4) a1.toNatClampNeg) * a3.toInt64)) (hJ h (hR h a0 5) a1.toNatClampNeg) ((hJ h (hR h a0 3) a2.toNatClampNeg) + ((hJ h (hR h a0 4) a2.toNatClampNeg) * a3.toInt64)) (hJ h (hR h a0 5) a2.toNatClampNeg) h) cw_X1_120 rfl ⟨⟨Nat.le_of_ble_eq_true rfl, Nat.le_of_ble_eq_true rfl⟩, Nat.le_of_ble_eq_true rfl⟩ rfl (by decide +kernel) (fun w13 g11 e12 => ?_)
  exact s_iret (pc := 47) rfl (by decide +kernel)
theorem tX1_orderAt (a0 : Nat) (a1 : Int32) (a2 : Int32) (a3 : Int32) (h : xH) : Ct yX1_orderAt kX1_orderAt emI [.ref a0, .int a1, .int a2, .int a3] h (fX1_orderAt a0 a1 a2 a3 h) := Ct_of (by decide +kernel) rfl rfl rfl (Nat.le_of_ble_eq_true rfl) rfl (pX1_orderAt_e a0 a1 a2 a3 h)
def fX1_lookAt_b141 (r18 : Nat → Int32 → Int32 → xH → Option (Unit × xH))  (a0 : Nat) (a1 : Int32) (a2 : Int32) (h : xH) : Option (Unit × xH) :=
  lt (a2 + (1 : Int32)) (fun v1 =>
  r18 a0 a1 v1 h)
def fX1_lookAt_b136 (r18 : Nat → Int32 → Int32 → xH → Option (Unit × xH))  (a0 : Nat) (a1 : Int32) (a2 : Int32) (h : xH) : Option (Unit × xH) :=
  if kc h a0 = 1 then
  lt (sI h a0 8 a2) (fun g2 =>
  fX1_lookAt_b141 r18 a0 a1 a2 g2)
  else none
def fX1_lookAt_b18 (r18 : Nat → Int32 → Int32 → xH → Option (Unit × xH))  (a0 : Nat) (a1 : Int32) (a2 : Int32) (h : xH) : Option (Unit × xH) :=
  if kc h a0 = 1 then
  if (hI h a0 0) ≤ a2 then (
  some ((), h))
  else (
  if kc h (hR h a0 1) = 8 then
  if ix a2 (kl h (hR h a0 1)) then
  if (hI h (hR h a0 1) a2.toNatClampNeg) ≤ a1 then (
  if kc h (hR h a0 2) = 8 then
  if ix a2 (kl h (hR h a0 2)) then
  if (hI h (hR h a0 2) a2.toNatClampNeg) ≤ a1 then (
  if (hI h (hR h a0 1) a2.toNatClampNeg) = a1 then (
  if (hI h a0 8) < 0 then (
  fX1_lookAt_b136 r18 a0 a1 a2 h)
  else (
  bd (fX1_orderAt a0 a2 (hI h a0 8) a1 h) (fun w8 g6 =>
  if 0 ≤ w8 then (
  fX1_lookAt_b141 r18 a0 a1 a2 g6)
  else (
  fX1_lookAt_b136 r18 a0 a1 a2 g6))))
  else (
  fX1_lookAt_b141 r18 a0 a1 a2 h))
  else (
  bd (fJ9_min_7cf53 (hI h a0 9) (hI h (hR h a0 2) a2.toNatClampNeg) h) (fun w11 g9 =>
  lt (sI g9 a0 9 w11) (fun g13 =>
  if kc g13 (hR g13 a0 6) = 8 then
  if ix (hI g13 a0 7) (kl g13 (hR g13 a0 6)) then
  lt (sI g13 (hR g13 a0 6) (hI g13 a0 7).toNatClampNeg a2) (fun g18 =>
  lt (sI g18 a0 7 ((hI g18 a0 7) + (1 : Int32))) (fun g21 =>
  fX1_lookAt_b141 r18 a0 a1 a2 g21))
  else none
  else none)))
  else none
  else none)
  else (
  bd (fJ9_min_7cf53 (hI h a0 9) (hI h (hR h a0 1) a2.toNatClampNeg) h) (fun w25 g23 =>
  lt (sI g23 a0 9 w25) (fun g27 =>
  fX1_lookAt_b141 r18 a0 a1 a2 g27)))
  else none
  else none)
  else none
def fX1_lookAt_l18  : Nat → Nat → Int32 → Int32 → xH → Option (Unit × xH)
  | 0 => fun _ _ _ _ => none
  | k + 1 => fX1_lookAt_b18 (fX1_lookAt_l18  k)
def fX1_lookAt   (a0 : Nat) (a1 : Int32) (h : xH) : Option (Unit × xH) :=
  if kc h a0 = 1 then
  lt (sI h a0 7 (0 : Int32)) (fun g2 =>
  lt (sI g2 a0 8 (-1 : Int32)) (fun g5 =>
  lt (sI g5 a0 9 (2147483647 : Int32)) (fun g8 =>
  lt (0 : Int32) (fun v10 =>
  fX1_lookAt_l18 FU a0 a1 v10 g8))))
  else none
theorem pX1_lookAt_b141 {h0 : xH} {r18 : Nat → Int32 → Int32 → xH → Option (Unit × xH)} (hr18 : ∀  (a0 : Nat) (a1 : Int32) (a2 : Int32) (g : xH), S emV kX1_lookAt h0 18 [(0, .ref a0), (1, .int a1), (2, .int a2)] [] g (r18  a0 a1 a2 g))  (a0 : Nat) (a1 : Int32) (a2 : Int32) (h : xH) : S emV kX1_lookAt h0 141 [(0, .ref a0), (1, .int a1), (2, .int a2)] [] h (fX1_lookAt_b141 r18 a0 a1 a2 h) := by
  unfold fX1_lookAt_b141
  refine s_iinc (pc := 141) (L' := [(2, .int (a2 + (1 : Int32))), (0, .ref a0), (1, .int a1)]) (i := 2) (n := 1) 2 rfl rfl (by decide) rfl (by decide +kernel) ?_
  refine s_nmI0 (e := a2 + (1 : Int32)) (L := fun v1 => [(2, .int v1), (0, .ref a0), (1, .int a1)]) (fun v1 => ?_)
  refine s_goto (pc := 144) (off := -126) 18 (by decide +kernel) (by decide) ?_
  refine S_sub [1, 2, 0] rfl ?_
  exact hr18 a0 a1 v1 h
theorem pX1_lookAt_b136 {h0 : xH} {r18 : Nat → Int32 → Int32 → xH → Option (Unit × xH)} (hr18 : ∀  (a0 : Nat) (a1 : Int32) (a2 : Int32) (g : xH), S emV kX1_lookAt h0 18 [(0, .ref a0), (1, .int a1), (2, .int a2)] [] g (r18  a0 a1 a2 g))  (a0 : Nat) (a1 : Int32) (a2 : Int32) (h : xH) : S emV kX1_lookAt h0 136 [(0, .ref a0), (1, .int a1), (2, .int a2)] [] h (fX1_lookAt_b136 r18 a0 a1 a2 h) := by
  unfold fX1_lookAt_b136
  refine s_aload_n (pc := 136) (k0 := 0) (i := 0) rfl 0 rfl (by decide +kernel) ?_
  refine s_iload_n (pc := 137) (k0 := 2) (i := 2) rfl 2 rfl (by decide +kernel) ?_
  refine S_gd (fun c1 => ?_)
  refine s_putI (pc := 138) (k := 8) c1 ft_X1_18 (fw_1_8 _ _) rfl rfl (by decide +kernel) ?_
  refine s_nmH (o := h) rfl (fun g2 e3 => ?_)
  exact pX1_lookAt_b141 hr18 a0 a1 a2 g2
theorem pX1_lookAt_b18 {h0 : xH} {r18 : Nat → Int32 → Int32 → xH → Option (Unit × xH)} (hr18 : ∀  (a0 : Nat) (a1 : Int32) (a2 : Int32) (g : xH), S emV kX1_lookAt h0 18 [(0, .ref a0), (1, .int a1), (2, .int a2)] [] g (r18  a0 a1 a2 g))  (a0 : Nat) (a1 : Int32) (a2 : Int32) (h : xH) : S emV kX1_lookAt h0 18 [(0, .ref a0), (1, .int a1), (2, .int a2)] [] h (fX1_lookAt_b18 r18 a0 a1 a2 h) := by
  unfold fX1_lookAt_b18
  refine s_iload_n (pc := 18) (k0 := 2) (i := 2) rfl 2 rfl (by decide +kernel) ?_
  refine s_aload_n (pc := 19) (k0 := 0) (i := 0) rfl 0 rfl (by decide +kernel) ?_
  refine S_gd (fun c1 => ?_)
  refine s_getI (pc := 20) (k := 0) c1 ft_X1_9 rfl (by decide +kernel) ?_
  refine s_icmp_ge (pc := 23) (off := 124) 147 (by decide +kernel) (by decide) (fun _ => ?_) (fun _ => ?_)
  · exact s_vret (pc := 147) rfl (by decide +kernel)
  · refine s_aload_n (pc := 26) (k0 := 0) (i := 0) rfl 0 rfl (by decide +kernel) ?_
    refine s_getR (pc := 27) (k := 1) c1 ft_X1_25 rfl (by decide +kernel) ?_
    refine s_iload_n (pc := 30) (k0 := 2) (i := 2) rfl 2 rfl (by decide +kernel) ?_
    refine S_gd (fun c2 => ?_)
    refine S_gd (fun c3 => ?_)
    refine s_iald (pc := 31) c2 c3 (by decide +kernel) ?_
    refine s_iload_n (pc := 32) (k0 := 1) (i := 1) rfl 1 rfl (by decide +kernel) ?_
    refine s_icmp_le (pc := 33) (off := 23) 56 (by decide +kernel) (by decide) (fun _ => ?_) (fun _ => ?_)
    · refine s_aload_n (pc := 56) (k0 := 0) (i := 0) rfl 0 rfl (by decide +kernel) ?_
      refine s_getR (pc := 57) (k := 2) c1 ft_X1_29 rfl (by decide +kernel) ?_
      refine s_iload_n (pc := 60) (k0 := 2) (i := 2) rfl 2 rfl (by decide +kernel) ?_
      refine S_gd (fun c4 => ?_)
      refine S_gd (fun c5 => ?_)
      refine s_iald (pc := 61) c4 c5 (by decide +kernel) ?_
      refine s_iload_n (pc := 62) (k0 := 1) (i := 1) rfl 1 rfl (by decide +kernel) ?_
      refine s_icmp_le (pc := 63) (off := 43) 106 (by decide +kernel) (by decide) (fun _ => ?_) (fun _ => ?_)
      · refine s_aload_n (pc := 106) (k0 := 0) (i := 0) rfl 0 rfl (by decide +kernel) ?_
        refine s_getR (pc := 107) (k := 1) c1 ft_X1_25 rfl (by decide +kernel) ?_
        refine s_iload_n (pc := 110) (k0 := 2) (i := 2) rfl 2 rfl (by decide +kernel) ?_
        refine s_iald (pc := 111) c2 c3 (by decide +kernel) ?_
        refine s_iload_n (pc := 112) (k0 := 1) (i := 1) rfl 1 rfl (by decide +kernel) ?_
        refine s_icmp_ne (pc := 113) (off := 28) 141 (by decide +kernel) (by decide) (fun _ => ?_) (fun _ => ?_)
        · refine s_aload_n (pc := 116) (k0 := 0) (i := 0) rfl 0 rfl (by decide +kernel) ?_
          refine s_getI (pc := 117) (k := 8) c1 ft_X1_18 rfl (by decide +kernel) ?_
          refine s_if_lt (pc := 120) (off := 16) 136 (by decide +kernel) (by decide) (fun _ => ?_) (fun _ => ?_)
          · exact pX1_lookAt_b136 hr18 a0 a1 a2 h
          · refine s_aload_n (pc := 123) (k0 := 0) (i := 0) rfl 0 rfl (by decide +kernel) ?_
            refine s_iload_n (pc := 124) (k0 := 2) (i := 2) rfl 2 rfl (by decide +kernel) ?_
            refine s_aload_n (pc := 125) (k0 := 0) (i := 0) rfl 0 rfl (by decide +kernel) ?_
            refine s_getI (pc := 126) (k := 8) c1 ft_X1_18 rfl (by decide +kernel) ?_
            refine s_iload_n (pc := 129) (k0 := 1) (i := 1) rfl 1 rfl (by decide +kernel) ?_
            refine s_cVi (pc := 130) [.int a2, .int (hI h a0 8), .int a1] (tX1_orderAt a0 a2 (hI h a0 8) a1 h) c1 cw_X1_113 rfl ⟨⟨Nat.le_of_ble_eq_true rfl, Nat.le_of_ble_eq_true rfl⟩, Nat.le_of_ble_eq_true rfl⟩ rfl (by decide +kernel) (fun w8 g6 e7 => ?_)
            refine s_if_ge (pc := 133) (off := 8) 141 (by decide +kernel) (by decide) (fun _ => ?_) (fun _ => ?_)
            · exact pX1_lookAt_b141 hr18 a0 a1 a2 g6
            · exact pX1_lookAt_b136 hr18 a0 a1 a2 g6
        · exact pX1_lookAt_b141 hr18 a0 a1 a2 h
      · refine s_aload_n (pc := 66) (k0 := 0) (i := 0) rfl 0 rfl (by decide +kernel) ?_
        refine s_aload_n (pc := 67) (k0 := 0) (i := 0) rfl 0 rfl (by decide +kernel) ?_
        refine s_getI (pc := 68) (k := 9) c1 ft_X1_22 rfl (by decide +kernel) ?_
        refine s_aload_n (pc := 71) (k0 := 0) (i := 0) rfl 0 rfl (by decide +kernel) ?_
        refine s_getR (pc := 72) (k := 2) c1 ft_X1_29 rfl (by decide +kernel) ?_
        refine s_iload_n (pc := 75) (k0 := 2) (i := 2) rfl 2 rfl (by decide +kernel) ?_
        refine s_iald (pc := 76) c4 c5 (by decide +kernel) ?_
        refine s_cSi (pc := 77) [.int (hI h a0 9), .int (hI h (hR h a0 2) a2.toNatClampNeg)] (tJ9_min_7cf53 (hI h a0 9) (hI h (hR h a0 2) a2.toNatClampNeg) h) cw_X1_81 rfl ⟨⟨Nat.le_of_ble_eq_true rfl, Nat.le_of_ble_eq_true rfl⟩, Nat.le_of_ble_eq_true rfl⟩ rfl (by decide +kernel) (fun w11 g9 e10 => ?_)
        have c12 := kp e10 c1 (by decide)
        refine s_putI (pc := 80) (k := 9) c12 ft_X1_22 (fw_1_9 _ _) rfl rfl (by decide +kernel) ?_
        refine s_nmH (o := g9) rfl (fun g13 e14 => ?_)
        refine s_aload_n (pc := 83) (k0 := 0) (i := 0) rfl 0 rfl (by decide +kernel) ?_
        have c15 := kp e14 c12 (by decide)
        refine s_getR (pc := 84) (k := 6) c15 ft_X1_42 rfl (by decide +kernel) ?_
        refine s_aload_n (pc := 87) (k0 := 0) (i := 0) rfl 0 rfl (by decide +kernel) ?_
        refine s_getI (pc := 88) (k := 7) c15 ft_X1_15 rfl (by decide +kernel) ?_
        refine s_iload_n (pc := 91) (k0 := 2) (i := 2) rfl 2 rfl (by decide +kernel) ?_
        refine S_gd (fun c16 => ?_)
        refine S_gd (fun c17 => ?_)
        refine s_iast (pc := 92) c16 c17 (by decide +kernel) ?_
        refine s_nmH (o := g13) rfl (fun g18 e19 => ?_)
        refine s_aload_n (pc := 93) (k0 := 0) (i := 0) rfl 0 rfl (by decide +kernel) ?_
        refine s_dup_a (pc := 94) (by decide +kernel) ?_
        have c20 := kp e19 c15 (by decide)
        refine s_getI (pc := 95) (k := 7) c20 ft_X1_15 rfl (by decide +kernel) ?_
        refine s_iconst (pc := 98) (n := 1) (v := (1 : Int32)) (by decide) (by decide +kernel) ?_
        refine s_iadd (pc := 99) (by decide +kernel) ?_
        refine s_putI (pc := 100) (k := 7) c20 ft_X1_15 (fw_1_7 _ _) rfl rfl (by decide +kernel) ?_
        refine s_nmH (o := g18) rfl (fun g21 e22 => ?_)
        refine s_goto (pc := 103) (off := 38) 141 (by decide +kernel) (by decide) ?_
        exact pX1_lookAt_b141 hr18 a0 a1 a2 g21
    · refine s_aload_n (pc := 36) (k0 := 0) (i := 0) rfl 0 rfl (by decide +kernel) ?_
      refine s_aload_n (pc := 37) (k0 := 0) (i := 0) rfl 0 rfl (by decide +kernel) ?_
      refine s_getI (pc := 38) (k := 9) c1 ft_X1_22 rfl (by decide +kernel) ?_
      refine s_aload_n (pc := 41) (k0 := 0) (i := 0) rfl 0 rfl (by decide +kernel) ?_
      refine s_getR (pc := 42) (k := 1) c1 ft_X1_25 rfl (by decide +kernel) ?_
      refine s_iload_n (pc := 45) (k0 := 2) (i := 2) rfl 2 rfl (by decide +kernel) ?_
      refine s_iald (pc := 46) c2 c3 (by decide +kernel) ?_
      refine s_cSi (pc := 47) [.int (hI h a0 9), .int (hI h (hR h a0 1) a2.toNatClampNeg)] (tJ9_min_7cf53 (hI h a0 9) (hI h (hR h a0 1) a2.toNatClampNeg) h) cw_X1_81 rfl ⟨⟨Nat.le_of_ble_eq_true rfl, Nat.le_of_ble_eq_true rfl⟩, Nat.le_of_ble_eq_true rfl⟩ rfl (by decide +kernel) (fun w25 g23 e24 => ?_)
      have c26 := kp e24 c1 (by decide)
      refine s_putI (pc := 50) (k := 9) c26 ft_X1_22 (fw_1_9 _ _) rfl rfl (by decide +kernel) ?_
      refine s_nmH (o := g23) rfl (fun g27 e28 => ?_)
      refine s_goto (pc := 53) (off := 88) 141 (by decide +kernel) (by decide) ?_
      exact pX1_lookAt_b141 hr18 a0 a1 a2 g27
theorem pX1_lookAt_l18 {h0 : xH}   : ∀ (k : Nat)  (a0 : Nat) (a1 : Int32) (a2 : Int32) (h : xH), S emV kX1_lookAt h0 18 [(0, .ref a0), (1, .int a1), (2, .int a2)] [] h (fX1_lookAt_l18  k  a0 a1 a2 h) := by
  intro k
  induction k with
  | zero => intros; exact S_none
  | succ k ih => intro  a0 a1 a2 h; exact pX1_lookAt_b18 ih  a0 a1 a2 h
theorem pX1_lookAt_e    (a0 : Nat) (a1 : Int32) (h : xH) : S emV kX1_lookAt h 0 [(0, .ref a0), (1, .int a1)] [] h (fX1_lookAt  a0 a1 h) := by
  unfold fX1_lookAt
  refine s_aload_n (pc := 0) (k0 := 0) (i := 0) rfl 0 rfl (by decide +kernel) ?_
  refine s_iconst (pc := 1) (n := 0) (v := (0 : Int32)) (by decide) (by decide +kernel) ?_
  refine S_gd (fun c1 => ?_)
  refine s_putI (pc := 2) (k := 7) c1 ft_X1_15 (fw_1_7 _ _) rfl rfl (by decide +kernel) ?_
  refine s_nmH (o := h) rfl (fun g2 e3 => ?_)
  refine s_aload_n (pc := 5) (k0 := 0) (i := 0) rfl 0 rfl (by decide +kernel) ?_
  refine s_iconst (pc := 6) (n := -1) (v := (-1 : Int32)) (by decide) (by decide +kernel) ?_
  have c4 := kp e3 c1 (by decide)
  refine s_putI (pc := 7) (k := 8) c4 ft_X1_18 (fw_1_8 _ _) rfl rfl (by decide +kernel) ?_
  refine s_nmH (o := g2) rfl (fun g5 e6 => ?_)
  refine s_aload_n (pc := 10) (k0 := 0) (i := 0) rfl 0 rfl (by decide +kernel) ?_
  refine s_ldc (pc := 11) (v := (2147483647 : Int32)) (index := 21) (gd_of 140 (by decide +kernel) rfl) (by decide +kernel) ?_
  have c7 := kp e6 c4 (by decide)
  refine s_putI (pc := 13) (k := 9) c7 ft_X1_22 (fw_1_9 _ _) rfl rfl (by decide +kernel) ?_
  refine s_nmH (o := g5) rfl (fun g8 e9 => ?_)
  refine s_iconst (pc := 16) (n := 0) (v := (0 : Int32)) (by decide) (by decide +kernel) ?_
  refine s_nmI (fun v10 => ?_)
  refine s_istore_n (pc := 17) (L' := [(2, .int v10), (0, .ref a0), (1, .int a1)]) (k0 := 2) (i := 2) rfl (by decide) rfl (by decide +kernel) ?_
  refine S_sub [1, 2, 0] rfl ?_
  exact pX1_lookAt_l18 FU a0 a1 v10 g8
theorem tX1_lookAt (a0 : Nat) (a1 : Int32) (h : xH) : Ct yX1_lookAt kX1_lookAt emV [.ref a0, .int a1] h (fX1_lookAt a0 a1 h) := Ct_of (by decide +kernel) rfl rfl rfl (Nat.le_of_ble_eq_true rfl) rfl (pX1_lookAt_e a0 a1 h)
def fX1_steepness   (a0 : Nat) (a1 : Int32) (a2 : Int32) (h : xH) : Option (Int32 × xH) :=
  if kc h a0 = 1 then
  if kc h (hR h a0 4) = 9 then
  if ix a1 (kl h (hR h a0 4)) then
  if kc h (hR h a0 5) = 9 then
  if ix a2 (kl h (hR h a0 5)) then
  if ix a2 (kl h (hR h a0 4)) then
  if ix a1 (kl h (hR h a0 5)) then
  bd (fJ13_compare_74951 ((hJ h (hR h a0 4) a1.toNatClampNeg) * (hJ h (hR h a0 5) a2.toNatClampNeg)) ((hJ h (hR h a0 4) a2.toNatClampNeg) * (hJ h (hR h a0 5) a1.toNatClampNeg)) h) (fun w10 g8 =>
  some (w10, g8))
  else none
  else none
  else none
  else none
  else none
  else none
  else none
theorem pX1_steepness_e    (a0 : Nat) (a1 : Int32) (a2 : Int32) (h : xH) : S emI kX1_steepness h 0 [(0, .ref a0), (1, .int a1), (2, .int a2)] [] h (fX1_steepness  a0 a1 a2 h) := by
  unfold fX1_steepness
  refine s_aload_n (pc := 0) (k0 := 0) (i := 0) rfl 0 rfl (by decide +kernel) ?_
  refine S_gd (fun c1 => ?_)
  refine s_getR (pc := 1) (k := 4) c1 ft_X1_36 rfl (by decide +kernel) ?_
  refine s_iload_n (pc := 4) (k0 := 1) (i := 1) rfl 1 rfl (by decide +kernel) ?_
  refine S_gd (fun c2 => ?_)
  refine S_gd (fun c3 => ?_)
  refine s_lald (pc := 5) c2 c3 (by decide +kernel) ?_
  refine s_aload_n (pc := 6) (k0 := 0) (i := 0) rfl 0 rfl (by decide +kernel) ?_
  refine s_getR (pc := 7) (k := 5) c1 ft_X1_39 rfl (by decide +kernel) ?_
  refine s_iload_n (pc := 10) (k0 := 2) (i := 2) rfl 2 rfl (by decide +kernel) ?_
  refine S_gd (fun c4 => ?_)
  refine S_gd (fun c5 => ?_)
  refine s_lald (pc := 11) c4 c5 (by decide +kernel) ?_
  refine s_lmul (pc := 12) (by decide +kernel) ?_
  refine s_aload_n (pc := 13) (k0 := 0) (i := 0) rfl 0 rfl (by decide +kernel) ?_
  refine s_getR (pc := 14) (k := 4) c1 ft_X1_36 rfl (by decide +kernel) ?_
  refine s_iload_n (pc := 17) (k0 := 2) (i := 2) rfl 2 rfl (by decide +kernel) ?_
  refine S_gd (fun c6 => ?_)
  refine s_lald (pc := 18) c2 c6 (by decide +kernel) ?_
  refine s_aload_n (pc := 19) (k0 := 0) (i := 0) rfl 0 rfl (by decide +kernel) ?_
  refine s_getR (pc := 20) (k := 5) c1 ft_X1_39 rfl (by decide +kernel) ?_
  refine s_iload_n (pc := 23) (k0 := 1) (i := 1) rfl 1 rfl (by decide +kernel) ?_
  refine S_gd (fun c7 => ?_)
  refine s_lald (pc := 24) c4 c7 (by decide +kernel) ?_
  refine s_lmul (pc := 25) (by decide +kernel) ?_
  refine s_cSi (pc := 26) [.long ((hJ h (hR h a0 4) a1.toNatClampNeg) * (hJ h (hR h a0 5) a2.toNatClampNeg)), .long ((hJ h (hR h a0 4) a2.toNatClampNeg) * (hJ h (hR h a0 5) a1.toNatClampNeg))] (tJ13_compare_74951 ((hJ h (hR h a0 4) a1.toNatClampNeg) * (hJ h (hR h a0 5) a2.toNatClampNeg)) ((hJ h (hR h a0 4) a2.toNatClampNeg) * (hJ h (hR h a0 5) a1.toNatClampNeg)) h) cw_X1_126 rfl ⟨⟨Nat.le_of_ble_eq_true rfl, Nat.le_of_ble_eq_true rfl⟩, Nat.le_of_ble_eq_true rfl⟩ rfl (by decide +kernel) (fun w10 g8 e9 => ?_)
  exact s_iret (pc := 29) rfl (by decide +kernel)
theorem tX1_steepness (a0 : Nat) (a1 : Int32) (a2 : Int32) (h : xH) : Ct yX1_steepness kX1_steepness emI [.ref a0, .int a1, .int a2] h (fX1_steepness a0 a1 a2 h) := Ct_of (by decide +kernel) rfl rfl rfl (Nat.le_of_ble_eq_true rfl) rfl (pX1_steepness_e a0 a1 a2 h)
def fX1_lowestLive_b61 (r4 : Nat → Int32 → Int32 → Int32 → xH → Option (Int32 × xH))  (a0 : Nat) (a1 : Int32) (a2 : Int32) (a3 : Int32) (h : xH) : Option (Int32 × xH) :=
  lt (a3 + (1 : Int32)) (fun v1 =>
  r4 a0 a1 a2 v1 h)
def fX1_lowestLive_b58 (r4 : Nat → Int32 → Int32 → Int32 → xH → Option (Int32 × xH))  (a0 : Nat) (a1 : Int32) (a3 : Int32) (a4 : Int32) (h : xH) : Option (Int32 × xH) :=
  fX1_lowestLive_b61 r4 a0 a1 a4 a3 h
def fX1_lowestLive_b36 (r4 : Nat → Int32 → Int32 → Int32 → xH → Option (Int32 × xH)) (s0 : Int32) (a0 : Nat) (a1 : Int32) (a2 : Int32) (a3 : Int32) (a4 : Int32) (h : xH) : Option (Int32 × xH) :=
  if s0 < 0 then (
  fX1_lowestLive_b58 r4 a0 a1 a3 a4 h)
  else (
  if s0 = 0 then (
  if kc h a0 = 1 then
  bd (fX1_steepness a0 a4 a2 h) (fun w4 g2 =>
  if 0 ≤ w4 then (
  fX1_lowestLive_b61 r4 a0 a1 a2 a3 g2)
  else (
  fX1_lowestLive_b58 r4 a0 a1 a3 a4 g2))
  else none)
  else (
  fX1_lowestLive_b61 r4 a0 a1 a2 a3 h))
def fX1_lowestLive_b4 (r4 : Nat → Int32 → Int32 → Int32 → xH → Option (Int32 × xH))  (a0 : Nat) (a1 : Int32) (a2 : Int32) (a3 : Int32) (h : xH) : Option (Int32 × xH) :=
  if kc h a0 = 1 then
  if (hI h a0 7) ≤ a3 then (
  some (a2, h))
  else (
  if kc h (hR h a0 6) = 8 then
  if ix a3 (kl h (hR h a0 6)) then
  lt (hI h (hR h a0 6) a3.toNatClampNeg) (fun v4 =>
  if 0 ≤ a2 then (
  bd (fX1_orderAt a0 v4 a2 a1 h) (fun w7 g5 =>
  fX1_lowestLive_b36 r4 w7 a0 a1 a2 a3 v4 g5))
  else (
  fX1_lowestLive_b36 r4 (-1 : Int32) a0 a1 a2 a3 v4 h))
  else none
  else none)
  else none
def fX1_lowestLive_l4  : Nat → Nat → Int32 → Int32 → Int32 → xH → Option (Int32 × xH)
  | 0 => fun _ _ _ _ _ => none
  | k + 1 => fX1_lowestLive_b4 (fX1_lowestLive_l4  k)
def fX1_lowestLive   (a0 : Nat) (a1 : Int32) (h : xH) : Option (Int32 × xH) :=
  lt (-1 : Int32) (fun v1 =>
  lt (0 : Int32) (fun v2 =>
  fX1_lowestLive_l4 FU a0 a1 v1 v2 h))
theorem pX1_lowestLive_b61 {h0 : xH} {r4 : Nat → Int32 → Int32 → Int32 → xH → Option (Int32 × xH)} (hr4 : ∀  (a0 : Nat) (a1 : Int32) (a2 : Int32) (a3 : Int32) (g : xH), S emI kX1_lowestLive h0 4 [(0, .ref a0), (1, .int a1), (2, .int a2), (3, .int a3)] [] g (r4  a0 a1 a2 a3 g))  (a0 : Nat) (a1 : Int32) (a2 : Int32) (a3 : Int32) (h : xH) : S emI kX1_lowestLive h0 61 [(0, .ref a0), (1, .int a1), (2, .int a2), (3, .int a3)] [] h (fX1_lowestLive_b61 r4 a0 a1 a2 a3 h) := by
  unfold fX1_lowestLive_b61
  refine s_iinc (pc := 61) (L' := [(3, .int (a3 + (1 : Int32))), (0, .ref a0), (1, .int a1), (2, .int a2)]) (i := 3) (n := 1) 3 rfl rfl (by decide) rfl (by decide +kernel) ?_
  refine s_nmI0 (e := a3 + (1 : Int32)) (L := fun v1 => [(3, .int v1), (0, .ref a0), (1, .int a1), (2, .int a2)]) (fun v1 => ?_)
  refine s_goto (pc := 64) (off := -60) 4 (by decide +kernel) (by decide) ?_
  refine S_sub [1, 2, 3, 0] rfl ?_
  exact hr4 a0 a1 a2 v1 h
theorem pX1_lowestLive_b58 {h0 : xH} {r4 : Nat → Int32 → Int32 → Int32 → xH → Option (Int32 × xH)} (hr4 : ∀  (a0 : Nat) (a1 : Int32) (a2 : Int32) (a3 : Int32) (g : xH), S emI kX1_lowestLive h0 4 [(0, .ref a0), (1, .int a1), (2, .int a2), (3, .int a3)] [] g (r4  a0 a1 a2 a3 g))  (a0 : Nat) (a1 : Int32) (a3 : Int32) (a4 : Int32) (h : xH) : S emI kX1_lowestLive h0 58 [(0, .ref a0), (1, .int a1), (3, .int a3), (4, .int a4)] [] h (fX1_lowestLive_b58 r4 a0 a1 a3 a4 h) := by
  unfold fX1_lowestLive_b58
  refine s_iload (pc := 58) (i := 4) 3 rfl (by decide +kernel) ?_
  refine s_istore_n (pc := 60) (L' := [(2, .int a4), (0, .ref a0), (1, .int a1), (3, .int a3), (4, .int a4)]) (k0 := 2) (i := 2) rfl (by decide) rfl (by decide +kernel) ?_
  refine S_sub [1, 2, 0, 3] rfl ?_
  exact pX1_lowestLive_b61 hr4 a0 a1 a4 a3 h
theorem pX1_lowestLive_b36 {h0 : xH} {r4 : Nat → Int32 → Int32 → Int32 → xH → Option (Int32 × xH)} (hr4 : ∀  (a0 : Nat) (a1 : Int32) (a2 : Int32) (a3 : Int32) (g : xH), S emI kX1_lowestLive h0 4 [(0, .ref a0), (1, .int a1), (2, .int a2), (3, .int a3)] [] g (r4  a0 a1 a2 a3 g)) (s0 : Int32) (a0 : Nat) (a1 : Int32) (a2 : Int32) (a3 : Int32) (a4 : Int32) (h : xH) : S emI kX1_lowestLive h0 36 [(0, .ref a0), (1, .int a1), (2, .int a2), (3, .int a3), (4, .int a4)] [.int s0] h (fX1_lowestLive_b36 r4 s0 a0 a1 a2 a3 a4 h) := by
  unfold fX1_lowestLive_b36
  refine s_istore (pc := 36) (L' := [(5, .int s0), (0, .ref a0), (1, .int a1), (2, .int a2), (3, .int a3), (4, .int a4)]) (i := 5) (by decide) rfl (by decide +kernel) ?_
  refine s_iload (pc := 38) (i := 5) 0 rfl (by decide +kernel) ?_
  refine s_if_lt (pc := 40) (off := 18) 58 (by decide +kernel) (by decide) (fun _ => ?_) (fun _ => ?_)
  · refine S_sub [1, 2, 4, 5] rfl ?_
    exact pX1_lowestLive_b58 hr4 a0 a1 a3 a4 h
  · refine s_iload (pc := 43) (i := 5) 0 rfl (by decide +kernel) ?_
    refine s_if_ne (pc := 45) (off := 16) 61 (by decide +kernel) (by decide) (fun _ => ?_) (fun _ => ?_)
    · refine s_aload_n (pc := 48) (k0 := 0) (i := 0) rfl 1 rfl (by decide +kernel) ?_
      refine s_iload (pc := 49) (i := 4) 5 rfl (by decide +kernel) ?_
      refine s_iload_n (pc := 51) (k0 := 2) (i := 2) rfl 3 rfl (by decide +kernel) ?_
      refine S_gd (fun c1 => ?_)
      refine s_cVi (pc := 52) [.int a4, .int a2] (tX1_steepness a0 a4 a2 h) c1 cw_X1_117 rfl ⟨⟨Nat.le_of_ble_eq_true rfl, Nat.le_of_ble_eq_true rfl⟩, Nat.le_of_ble_eq_true rfl⟩ rfl (by decide +kernel) (fun w4 g2 e3 => ?_)
      refine s_if_ge (pc := 55) (off := 6) 61 (by decide +kernel) (by decide) (fun _ => ?_) (fun _ => ?_)
      · refine S_sub [1, 2, 3, 4] rfl ?_
        exact pX1_lowestLive_b61 hr4 a0 a1 a2 a3 g2
      · refine S_sub [1, 2, 4, 5] rfl ?_
        exact pX1_lowestLive_b58 hr4 a0 a1 a3 a4 g2
    · refine S_sub [1, 2, 3, 4] rfl ?_
      exact pX1_lowestLive_b61 hr4 a0 a1 a2 a3 h
theorem pX1_lowestLive_b4 {h0 : xH} {r4 : Nat → Int32 → Int32 → Int32 → xH → Option (Int32 × xH)} (hr4 : ∀  (a0 : Nat) (a1 : Int32) (a2 : Int32) (a3 : Int32) (g : xH), S emI kX1_lowestLive h0 4 [(0, .ref a0), (1, .int a1), (2, .int a2), (3, .int a3)] [] g (r4  a0 a1 a2 a3 g))  (a0 : Nat) (a1 : Int32) (a2 : Int32) (a3 : Int32) (h : xH) : S emI kX1_lowestLive h0 4 [(0, .ref a0), (1, .int a1), (2, .int a2), (3, .int a3)] [] h (fX1_lowestLive_b4 r4 a0 a1 a2 a3 h) := by
  unfold fX1_lowestLive_b4
  refine s_iload_n (pc := 4) (k0 := 3) (i := 3) rfl 3 rfl (by decide +kernel) ?_
  refine s_aload_n (pc := 5) (k0 := 0) (i := 0) rfl 0 rfl (by decide +kernel) ?_
  refine S_gd (fun c1 => ?_)
  refine s_getI (pc := 6) (k := 7) c1 ft_X1_15 rfl (by decide +kernel) ?_
  refine s_icmp_ge (pc := 9) (off := 58) 67 (by decide +kernel) (by decide) (fun _ => ?_) (fun _ => ?_)
  · refine s_iload_n (pc := 67) (k0 := 2) (i := 2) rfl 2 rfl (by decide +kernel) ?_
    exact s_iret (pc := 68) rfl (by decide +kernel)
  · refine s_aload_n (pc := 12) (k0 := 0) (i := 0) rfl 0 rfl (by decide +kernel) ?_
    refine s_getR (pc := 13) (k := 6) c1 ft_X1_42 rfl (by decide +kernel) ?_
    refine s_iload_n (pc := 16) (k0 := 3) (i := 3) rfl 3 rfl (by decide +kernel) ?_
    refine S_gd (fun c2 => ?_)
    refine S_gd (fun c3 => ?_)
    refine s_iald (pc := 17) c2 c3 (by decide +kernel) ?_
    refine s_nmI (fun v4 => ?_)
    refine s_istore (pc := 18) (L' := [(4, .int v4), (0, .ref a0), (1, .int a1), (2, .int a2), (3, .int a3)]) (i := 4) (by decide) rfl (by decide +kernel) ?_
    refine s_iload_n (pc := 20) (k0 := 2) (i := 2) rfl 3 rfl (by decide +kernel) ?_
    refine s_if_ge (pc := 21) (off := 7) 28 (by decide +kernel) (by decide) (fun _ => ?_) (fun _ => ?_)
    · refine s_aload_n (pc := 28) (k0 := 0) (i := 0) rfl 1 rfl (by decide +kernel) ?_
      refine s_iload (pc := 29) (i := 4) 0 rfl (by decide +kernel) ?_
      refine s_iload_n (pc := 31) (k0 := 2) (i := 2) rfl 3 rfl (by decide +kernel) ?_
      refine s_iload_n (pc := 32) (k0 := 1) (i := 1) rfl 2 rfl (by decide +kernel) ?_
      refine s_cVi (pc := 33) [.int v4, .int a2, .int a1] (tX1_orderAt a0 v4 a2 a1 h) c1 cw_X1_113 rfl ⟨⟨Nat.le_of_ble_eq_true rfl, Nat.le_of_ble_eq_true rfl⟩, Nat.le_of_ble_eq_true rfl⟩ rfl (by decide +kernel) (fun w7 g5 e6 => ?_)
      refine S_sub [1, 2, 3, 4, 0] rfl ?_
      exact pX1_lowestLive_b36 hr4 w7 a0 a1 a2 a3 v4 g5
    · refine s_iconst (pc := 24) (n := -1) (v := (-1 : Int32)) (by decide) (by decide +kernel) ?_
      refine s_goto (pc := 25) (off := 11) 36 (by decide +kernel) (by decide) ?_
      refine S_sub [1, 2, 3, 4, 0] rfl ?_
      exact pX1_lowestLive_b36 hr4 (-1 : Int32) a0 a1 a2 a3 v4 h
theorem pX1_lowestLive_l4 {h0 : xH}   : ∀ (k : Nat)  (a0 : Nat) (a1 : Int32) (a2 : Int32) (a3 : Int32) (h : xH), S emI kX1_lowestLive h0 4 [(0, .ref a0), (1, .int a1), (2, .int a2), (3, .int a3)] [] h (fX1_lowestLive_l4  k  a0 a1 a2 a3 h) := by
  intro k
  induction k with
  | zero => intros; exact S_none
  | succ k ih => intro  a0 a1 a2 a3 h; exact pX1_lowestLive_b4 ih  a0 a1 a2 a3 h
theorem pX1_lowestLive_e    (a0 : Nat) (a1 : Int32) (h : xH) : S emI kX1_lowestLive h 0 [(0, .ref a0), (1, .int a1)] [] h (fX1_lowestLive  a0 a1 h) := by
  unfold fX1_lowestLive
  refine s_iconst (pc := 0) (n := -1) (v := (-1 : Int32)) (by decide) (by decide +kernel) ?_
  refine s_nmI (fun v1 => ?_)
  refine s_istore_n (pc := 1) (L' := [(2, .int v1), (0, .ref a0), (1, .int a1)]) (k0 := 2) (i := 2) rfl (by decide) rfl (by decide +kernel) ?_
  refine s_iconst (pc := 2) (n := 0) (v := (0 : Int32)) (by decide) (by decide +kernel) ?_
  refine s_nmI (fun v2 => ?_)
  refine s_istore_n (pc := 3) (L' := [(3, .int v2), (2, .int v1), (0, .ref a0), (1, .int a1)]) (k0 := 3) (i := 3) rfl (by decide) rfl (by decide +kernel) ?_
  refine S_sub [2, 3, 1, 0] rfl ?_
  exact pX1_lowestLive_l4 FU a0 a1 v1 v2 h
theorem tX1_lowestLive (a0 : Nat) (a1 : Int32) (h : xH) : Ct yX1_lowestLive kX1_lowestLive emI [.ref a0, .int a1] h (fX1_lowestLive a0 a1 h) := Ct_of (by decide +kernel) rfl rfl rfl (Nat.le_of_ble_eq_true rfl) rfl (pX1_lowestLive_e a0 a1 h)
def fX1_addEnd   (a0 : Nat) (a1 : Nat) (a2 : Int32) (a3 : Int32) (a4 : Int32) (h : xH) : Option (Unit × xH) :=
  if kc h a0 = 1 then
  if kc h (hR h a0 3) = 9 then
  if ix a3 (kl h (hR h a0 3)) then
  if kc h (hR h a0 4) = 9 then
  if ix a3 (kl h (hR h a0 4)) then
  if kc h (hR h a0 5) = 9 then
  if ix a3 (kl h (hR h a0 5)) then
  if kc h a1 = 4 then
  bd (fX4_addKnot a1 a2.toInt64 (1 : Int64) ((hJ h (hR h a0 3) a3.toNatClampNeg) + ((hJ h (hR h a0 4) a3.toNatClampNeg) * a2.toInt64)) (hJ h (hR h a0 5) a3.toNatClampNeg) a4 h) (fun _ g9 =>
  some ((), g9))
  else none
  else none
  else none
  else none
  else none
  else none
  else none
  else none
theorem pX1_addEnd_e    (a0 : Nat) (a1 : Nat) (a2 : Int32) (a3 : Int32) (a4 : Int32) (h : xH) : S emV kX1_addEnd h 0 [(0, .ref a0), (1, .ref a1), (2, .int a2), (3, .int a3), (4, .int a4)] [] h (fX1_addEnd  a0 a1 a2 a3 a4 h) := by
  unfold fX1_addEnd
  refine s_aload_n (pc := 0) (k0 := 1) (i := 1) rfl 1 rfl (by decide +kernel) ?_
  refine s_iload_n (pc := 1) (k0 := 2) (i := 2) rfl 2 rfl (by decide +kernel) ?_
  refine s_i2l (pc := 2) (by decide +kernel) ?_
  refine s_lconst (pc := 3) (n := 1) (v := (1 : Int64)) (by decide) (by decide +kernel) ?_
  refine s_aload_n (pc := 4) (k0 := 0) (i := 0) rfl 0 rfl (by decide +kernel) ?_
  refine S_gd (fun c1 => ?_)
  refine s_getR (pc := 5) (k := 3) c1 ft_X1_32 rfl (by decide +kernel) ?_
  refine s_iload_n (pc := 8) (k0 := 3) (i := 3) rfl 3 rfl (by decide +kernel) ?_
  refine S_gd (fun c2 => ?_)
  refine S_gd (fun c3 => ?_)
  refine s_lald (pc := 9) c2 c3 (by decide +kernel) ?_
  refine s_aload_n (pc := 10) (k0 := 0) (i := 0) rfl 0 rfl (by decide +kernel) ?_
  refine s_getR (pc := 11) (k := 4) c1 ft_X1_36 rfl (by decide +kernel) ?_
  refine s_iload_n (pc := 14) (k0 := 3) (i := 3) rfl 3 rfl (by decide +kernel) ?_
  refine S_gd (fun c4 => ?_)
  refine S_gd (fun c5 => ?_)
  refine s_lald (pc := 15) c4 c5 (by decide +kernel) ?_
  refine s_iload_n (pc := 16) (k0 := 2) (i := 2) rfl 2 rfl (by decide +kernel) ?_
  refine s_i2l (pc := 17) (by decide +kernel) ?_
  refine s_lmul (pc := 18) (by decide +kernel) ?_
  refine s_ladd (pc := 19) (by decide +kernel) ?_
  refine s_aload_n (pc := 20) (k0 := 0) (i := 0) rfl 0 rfl (by decide +kernel) ?_
  refine s_getR (pc := 21) (k := 5) c1 ft_X1_39 rfl (by decide +kernel) ?_
  refine s_iload_n (pc := 24) (k0 := 3) (i := 3) rfl 3 rfl (by decide +kernel) ?_
  refine S_gd (fun c6 => ?_)
  refine S_gd (fun c7 => ?_)
  refine s_lald (pc := 25) c6 c7 (by decide +kernel) ?_
  refine s_iload (pc := 26) (i := 4) 4 rfl (by decide +kernel) ?_
  refine S_gd (fun c8 => ?_)
  refine s_cVv (pc := 28) [.long a2.toInt64, .long (1 : Int64), .long ((hJ h (hR h a0 3) a3.toNatClampNeg) + ((hJ h (hR h a0 4) a3.toNatClampNeg) * a2.toInt64)), .long (hJ h (hR h a0 5) a3.toNatClampNeg), .int a4] (tX4_addKnot a1 a2.toInt64 (1 : Int64) ((hJ h (hR h a0 3) a3.toNatClampNeg) + ((hJ h (hR h a0 4) a3.toNatClampNeg) * a2.toInt64)) (hJ h (hR h a0 5) a3.toNatClampNeg) a4 h) c8 cw_X1_136 rfl ⟨⟨Nat.le_of_ble_eq_true rfl, Nat.le_of_ble_eq_true rfl⟩, Nat.le_of_ble_eq_true rfl⟩ rfl (by decide +kernel) (fun _ g9 e10 => ?_)
  exact s_vret (pc := 31) rfl (by decide +kernel)
theorem tX1_addEnd (a0 : Nat) (a1 : Nat) (a2 : Int32) (a3 : Int32) (a4 : Int32) (h : xH) : Ct yX1_addEnd kX1_addEnd emV [.ref a0, .ref a1, .int a2, .int a3, .int a4] h (fX1_addEnd a0 a1 a2 a3 a4 h) := Ct_of (by decide +kernel) rfl rfl rfl (Nat.le_of_ble_eq_true rfl) rfl (pX1_addEnd_e a0 a1 a2 a3 a4 h)
def fX1_meetAt_b123   (a0 : Nat) (a1 : Nat) (a2 : Int32) (a4 : Int32) (h : xH) : Option (Unit × xH) :=
  if a4 < 0 then (
  some ((), h))
  else (
  if kc h a0 = 1 then
  bd (fX1_addEnd a0 a1 a2 a4 (1 : Int32) h) (fun _ g2 =>
  some ((), g2))
  else none)
def fX1_meetAt_b107   (a0 : Nat) (a1 : Nat) (a2 : Int32) (a4 : Int32) (a5 : Int32) (h : xH) : Option (Unit × xH) :=
  if a5 = 0 then (
  fX1_meetAt_b123 a0 a1 a2 a4 h)
  else (
  if kc h a0 = 1 then
  bd (fX1_addEnd a0 a1 a2 (hI h a0 8) (0 : Int32) h) (fun _ g2 =>
  fX1_meetAt_b123 a0 a1 a2 a4 g2)
  else none)
def fX1_meetAt_b95   (a0 : Nat) (a1 : Nat) (a2 : Int32) (a3 : Int32) (a4 : Int32) (a5 : Int32) (h : xH) : Option (Unit × xH) :=
  if a3 < 0 then (
  fX1_meetAt_b107 a0 a1 a2 a4 a5 h)
  else (
  if kc h a0 = 1 then
  bd (fX1_addEnd a0 a1 a2 a3 (0 : Int32) h) (fun _ g2 =>
  fX1_meetAt_b107 a0 a1 a2 a4 a5 g2)
  else none)
def fX1_meetAt_b48  (s0 : Int32) (a0 : Nat) (a1 : Nat) (a2 : Int32) (a3 : Int32) (a4 : Int32) (h : xH) : Option (Unit × xH) :=
  if a3 < 0 then (
  fX1_meetAt_b95 a0 a1 a2 a3 a4 s0 h)
  else (
  if a4 < 0 then (
  fX1_meetAt_b95 a0 a1 a2 a3 a4 s0 h)
  else (
  if s0 = 0 then (
  if kc h a0 = 1 then
  bd (fX1_orderAt a0 a3 a4 a2 h) (fun w4 g2 =>
  if w4 = 0 then (
  bd (fX1_steepness a0 a3 a4 g2) (fun w8 g6 =>
  if w8 = 0 then (
  some ((), g6))
  else (
  bd (fX1_addEnd a0 a1 a2 a4 (1 : Int32) g6) (fun _ g10 =>
  some ((), g10)))))
  else (
  fX1_meetAt_b95 a0 a1 a2 a3 a4 s0 g2))
  else none)
  else (
  fX1_meetAt_b95 a0 a1 a2 a3 a4 s0 h)))
def fX1_meetAt_b47   (a0 : Nat) (a1 : Nat) (a2 : Int32) (a3 : Int32) (a4 : Int32) (h : xH) : Option (Unit × xH) :=
  fX1_meetAt_b48 (0 : Int32) a0 a1 a2 a3 a4 h
def fX1_meetAt_b43   (a0 : Nat) (a1 : Nat) (a2 : Int32) (a3 : Int32) (a4 : Int32) (h : xH) : Option (Unit × xH) :=
  fX1_meetAt_b48 (1 : Int32) a0 a1 a2 a3 a4 h
def fX1_meetAt_b24   (a0 : Nat) (a1 : Nat) (a2 : Int32) (a3 : Int32) (a4 : Int32) (h : xH) : Option (Unit × xH) :=
  if a4 < 0 then (
  fX1_meetAt_b43 a0 a1 a2 a3 a4 h)
  else (
  if kc h a0 = 1 then
  bd (fX1_orderAt a0 (hI h a0 8) a4 a2 h) (fun w4 g2 =>
  if 0 ≤ w4 then (
  fX1_meetAt_b47 a0 a1 a2 a3 a4 g2)
  else (
  fX1_meetAt_b43 a0 a1 a2 a3 a4 g2))
  else none)
def fX1_meetAt   (a0 : Nat) (a1 : Nat) (a2 : Int32) (a3 : Int32) (a4 : Int32) (h : xH) : Option (Unit × xH) :=
  if kc h a0 = 1 then
  if (hI h a0 8) < 0 then (
  fX1_meetAt_b47 a0 a1 a2 a3 a4 h)
  else (
  if a3 < 0 then (
  fX1_meetAt_b24 a0 a1 a2 a3 a4 h)
  else (
  bd (fX1_orderAt a0 (hI h a0 8) a3 a2 h) (fun w4 g2 =>
  if 0 ≤ w4 then (
  fX1_meetAt_b47 a0 a1 a2 a3 a4 g2)
  else (
  fX1_meetAt_b24 a0 a1 a2 a3 a4 g2))))
  else none
theorem pX1_meetAt_b123 {h0 : xH}    (a0 : Nat) (a1 : Nat) (a2 : Int32) (a4 : Int32) (h : xH) : S emV kX1_meetAt h0 123 [(0, .ref a0), (1, .ref a1), (2, .int a2), (4, .int a4)] [] h (fX1_meetAt_b123  a0 a1 a2 a4 h) := by
  unfold fX1_meetAt_b123
  refine s_iload (pc := 123) (i := 4) 3 rfl (by decide +kernel) ?_
  refine s_if_lt (pc := 125) (off := 12) 137 (by decide +kernel) (by decide) (fun _ => ?_) (fun _ => ?_)
  · exact s_vret (pc := 137) rfl (by decide +kernel)
  · refine s_aload_n (pc := 128) (k0 := 0) (i := 0) rfl 0 rfl (by decide +kernel) ?_
    refine s_aload_n (pc := 129) (k0 := 1) (i := 1) rfl 1 rfl (by decide +kernel) ?_
    refine s_iload_n (pc := 130) (k0 := 2) (i := 2) rfl 2 rfl (by decide +kernel) ?_
    refine s_iload (pc := 131) (i := 4) 3 rfl (by decide +kernel) ?_
    refine s_iconst (pc := 133) (n := 1) (v := (1 : Int32)) (by decide) (by decide +kernel) ?_
    refine S_gd (fun c1 => ?_)
    refine s_cVv (pc := 134) [.ref a1, .int a2, .int a4, .int (1 : Int32)] (tX1_addEnd a0 a1 a2 a4 (1 : Int32) h) c1 cw_X1_132 rfl ⟨⟨Nat.le_of_ble_eq_true rfl, Nat.le_of_ble_eq_true rfl⟩, Nat.le_of_ble_eq_true rfl⟩ rfl (by decide +kernel) (fun _ g2 e3 => ?_)
    exact s_vret (pc := 137) rfl (by decide +kernel)
theorem pX1_meetAt_b107 {h0 : xH}    (a0 : Nat) (a1 : Nat) (a2 : Int32) (a4 : Int32) (a5 : Int32) (h : xH) : S emV kX1_meetAt h0 107 [(0, .ref a0), (1, .ref a1), (2, .int a2), (4, .int a4), (5, .int a5)] [] h (fX1_meetAt_b107  a0 a1 a2 a4 a5 h) := by
  unfold fX1_meetAt_b107
  refine s_iload (pc := 107) (i := 5) 4 rfl (by decide +kernel) ?_
  refine s_if_eq (pc := 109) (off := 14) 123 (by decide +kernel) (by decide) (fun _ => ?_) (fun _ => ?_)
  · refine S_sub [0, 1, 2, 3] rfl ?_
    exact pX1_meetAt_b123 a0 a1 a2 a4 h
  · refine s_aload_n (pc := 112) (k0 := 0) (i := 0) rfl 0 rfl (by decide +kernel) ?_
    refine s_aload_n (pc := 113) (k0 := 1) (i := 1) rfl 1 rfl (by decide +kernel) ?_
    refine s_iload_n (pc := 114) (k0 := 2) (i := 2) rfl 2 rfl (by decide +kernel) ?_
    refine s_aload_n (pc := 115) (k0 := 0) (i := 0) rfl 0 rfl (by decide +kernel) ?_
    refine S_gd (fun c1 => ?_)
    refine s_getI (pc := 116) (k := 8) c1 ft_X1_18 rfl (by decide +kernel) ?_
    refine s_iconst (pc := 119) (n := 0) (v := (0 : Int32)) (by decide) (by decide +kernel) ?_
    refine s_cVv (pc := 120) [.ref a1, .int a2, .int (hI h a0 8), .int (0 : Int32)] (tX1_addEnd a0 a1 a2 (hI h a0 8) (0 : Int32) h) c1 cw_X1_132 rfl ⟨⟨Nat.le_of_ble_eq_true rfl, Nat.le_of_ble_eq_true rfl⟩, Nat.le_of_ble_eq_true rfl⟩ rfl (by decide +kernel) (fun _ g2 e3 => ?_)
    refine S_sub [0, 1, 2, 3] rfl ?_
    exact pX1_meetAt_b123 a0 a1 a2 a4 g2
theorem pX1_meetAt_b95 {h0 : xH}    (a0 : Nat) (a1 : Nat) (a2 : Int32) (a3 : Int32) (a4 : Int32) (a5 : Int32) (h : xH) : S emV kX1_meetAt h0 95 [(0, .ref a0), (1, .ref a1), (2, .int a2), (3, .int a3), (4, .int a4), (5, .int a5)] [] h (fX1_meetAt_b95  a0 a1 a2 a3 a4 a5 h) := by
  unfold fX1_meetAt_b95
  refine s_iload_n (pc := 95) (k0 := 3) (i := 3) rfl 3 rfl (by decide +kernel) ?_
  refine s_if_lt (pc := 96) (off := 11) 107 (by decide +kernel) (by decide) (fun _ => ?_) (fun _ => ?_)
  · refine S_sub [0, 1, 2, 4, 5] rfl ?_
    exact pX1_meetAt_b107 a0 a1 a2 a4 a5 h
  · refine s_aload_n (pc := 99) (k0 := 0) (i := 0) rfl 0 rfl (by decide +kernel) ?_
    refine s_aload_n (pc := 100) (k0 := 1) (i := 1) rfl 1 rfl (by decide +kernel) ?_
    refine s_iload_n (pc := 101) (k0 := 2) (i := 2) rfl 2 rfl (by decide +kernel) ?_
    refine s_iload_n (pc := 102) (k0 := 3) (i := 3) rfl 3 rfl (by decide +kernel) ?_
    refine s_iconst (pc := 103) (n := 0) (v := (0 : Int32)) (by decide) (by decide +kernel) ?_
    refine S_gd (fun c1 => ?_)
    refine s_cVv (pc := 104) [.ref a1, .int a2, .int a3, .int (0 : Int32)] (tX1_addEnd a0 a1 a2 a3 (0 : Int32) h) c1 cw_X1_132 rfl ⟨⟨Nat.le_of_ble_eq_true rfl, Nat.le_of_ble_eq_true rfl⟩, Nat.le_of_ble_eq_true rfl⟩ rfl (by decide +kernel) (fun _ g2 e3 => ?_)
    refine S_sub [0, 1, 2, 4, 5] rfl ?_
    exact pX1_meetAt_b107 a0 a1 a2 a4 a5 g2
theorem pX1_meetAt_b48 {h0 : xH}   (s0 : Int32) (a0 : Nat) (a1 : Nat) (a2 : Int32) (a3 : Int32) (a4 : Int32) (h : xH) : S emV kX1_meetAt h0 48 [(0, .ref a0), (1, .ref a1), (2, .int a2), (3, .int a3), (4, .int a4)] [.int s0] h (fX1_meetAt_b48 s0 a0 a1 a2 a3 a4 h) := by
  unfold fX1_meetAt_b48
  refine s_istore (pc := 48) (L' := [(5, .int s0), (0, .ref a0), (1, .ref a1), (2, .int a2), (3, .int a3), (4, .int a4)]) (i := 5) (by decide) rfl (by decide +kernel) ?_
  refine s_iload_n (pc := 50) (k0 := 3) (i := 3) rfl 4 rfl (by decide +kernel) ?_
  refine s_if_lt (pc := 51) (off := 44) 95 (by decide +kernel) (by decide) (fun _ => ?_) (fun _ => ?_)
  · refine S_sub [1, 2, 3, 4, 5, 0] rfl ?_
    exact pX1_meetAt_b95 a0 a1 a2 a3 a4 s0 h
  · refine s_iload (pc := 54) (i := 4) 5 rfl (by decide +kernel) ?_
    refine s_if_lt (pc := 56) (off := 39) 95 (by decide +kernel) (by decide) (fun _ => ?_) (fun _ => ?_)
    · refine S_sub [1, 2, 3, 4, 5, 0] rfl ?_
      exact pX1_meetAt_b95 a0 a1 a2 a3 a4 s0 h
    · refine s_iload (pc := 59) (i := 5) 0 rfl (by decide +kernel) ?_
      refine s_if_ne (pc := 61) (off := 34) 95 (by decide +kernel) (by decide) (fun _ => ?_) (fun _ => ?_)
      · refine s_aload_n (pc := 64) (k0 := 0) (i := 0) rfl 1 rfl (by decide +kernel) ?_
        refine s_iload_n (pc := 65) (k0 := 3) (i := 3) rfl 4 rfl (by decide +kernel) ?_
        refine s_iload (pc := 66) (i := 4) 5 rfl (by decide +kernel) ?_
        refine s_iload_n (pc := 68) (k0 := 2) (i := 2) rfl 3 rfl (by decide +kernel) ?_
        refine S_gd (fun c1 => ?_)
        refine s_cVi (pc := 69) [.int a3, .int a4, .int a2] (tX1_orderAt a0 a3 a4 a2 h) c1 cw_X1_113 rfl ⟨⟨Nat.le_of_ble_eq_true rfl, Nat.le_of_ble_eq_true rfl⟩, Nat.le_of_ble_eq_true rfl⟩ rfl (by decide +kernel) (fun w4 g2 e3 => ?_)
        refine s_if_ne (pc := 72) (off := 23) 95 (by decide +kernel) (by decide) (fun _ => ?_) (fun _ => ?_)
        · refine s_aload_n (pc := 75) (k0 := 0) (i := 0) rfl 1 rfl (by decide +kernel) ?_
          refine s_iload_n (pc := 76) (k0 := 3) (i := 3) rfl 4 rfl (by decide +kernel) ?_
          refine s_iload (pc := 77) (i := 4) 5 rfl (by decide +kernel) ?_
          have c5 := kp e3 c1 (by decide)
          refine s_cVi (pc := 79) [.int a3, .int a4] (tX1_steepness a0 a3 a4 g2) c5 cw_X1_117 rfl ⟨⟨Nat.le_of_ble_eq_true rfl, Nat.le_of_ble_eq_true rfl⟩, Nat.le_of_ble_eq_true rfl⟩ rfl (by decide +kernel) (fun w8 g6 e7 => ?_)
          refine s_if_eq (pc := 82) (off := 12) 94 (by decide +kernel) (by decide) (fun _ => ?_) (fun _ => ?_)
          · exact s_vret (pc := 94) rfl (by decide +kernel)
          · refine s_aload_n (pc := 85) (k0 := 0) (i := 0) rfl 1 rfl (by decide +kernel) ?_
            refine s_aload_n (pc := 86) (k0 := 1) (i := 1) rfl 2 rfl (by decide +kernel) ?_
            refine s_iload_n (pc := 87) (k0 := 2) (i := 2) rfl 3 rfl (by decide +kernel) ?_
            refine s_iload (pc := 88) (i := 4) 5 rfl (by decide +kernel) ?_
            refine s_iconst (pc := 90) (n := 1) (v := (1 : Int32)) (by decide) (by decide +kernel) ?_
            have c9 := kp e7 c5 (by decide)
            refine s_cVv (pc := 91) [.ref a1, .int a2, .int a4, .int (1 : Int32)] (tX1_addEnd a0 a1 a2 a4 (1 : Int32) g6) c9 cw_X1_132 rfl ⟨⟨Nat.le_of_ble_eq_true rfl, Nat.le_of_ble_eq_true rfl⟩, Nat.le_of_ble_eq_true rfl⟩ rfl (by decide +kernel) (fun _ g10 e11 => ?_)
            exact s_vret (pc := 94) rfl (by decide +kernel)
        · refine S_sub [1, 2, 3, 4, 5, 0] rfl ?_
          exact pX1_meetAt_b95 a0 a1 a2 a3 a4 s0 g2
      · refine S_sub [1, 2, 3, 4, 5, 0] rfl ?_
        exact pX1_meetAt_b95 a0 a1 a2 a3 a4 s0 h
theorem pX1_meetAt_b47 {h0 : xH}    (a0 : Nat) (a1 : Nat) (a2 : Int32) (a3 : Int32) (a4 : Int32) (h : xH) : S emV kX1_meetAt h0 47 [(0, .ref a0), (1, .ref a1), (2, .int a2), (3, .int a3), (4, .int a4)] [] h (fX1_meetAt_b47  a0 a1 a2 a3 a4 h) := by
  unfold fX1_meetAt_b47
  refine s_iconst (pc := 47) (n := 0) (v := (0 : Int32)) (by decide) (by decide +kernel) ?_
  exact pX1_meetAt_b48 (0 : Int32) a0 a1 a2 a3 a4 h
theorem pX1_meetAt_b43 {h0 : xH}    (a0 : Nat) (a1 : Nat) (a2 : Int32) (a3 : Int32) (a4 : Int32) (h : xH) : S emV kX1_meetAt h0 43 [(0, .ref a0), (1, .ref a1), (2, .int a2), (3, .int a3), (4, .int a4)] [] h (fX1_meetAt_b43  a0 a1 a2 a3 a4 h) := by
  unfold fX1_meetAt_b43
  refine s_iconst (pc := 43) (n := 1) (v := (1 : Int32)) (by decide) (by decide +kernel) ?_
  refine s_goto (pc := 44) (off := 4) 48 (by decide +kernel) (by decide) ?_
  exact pX1_meetAt_b48 (1 : Int32) a0 a1 a2 a3 a4 h
theorem pX1_meetAt_b24 {h0 : xH}    (a0 : Nat) (a1 : Nat) (a2 : Int32) (a3 : Int32) (a4 : Int32) (h : xH) : S emV kX1_meetAt h0 24 [(0, .ref a0), (1, .ref a1), (2, .int a2), (3, .int a3), (4, .int a4)] [] h (fX1_meetAt_b24  a0 a1 a2 a3 a4 h) := by
  unfold fX1_meetAt_b24
  refine s_iload (pc := 24) (i := 4) 4 rfl (by decide +kernel) ?_
  refine s_if_lt (pc := 26) (off := 17) 43 (by decide +kernel) (by decide) (fun _ => ?_) (fun _ => ?_)
  · exact pX1_meetAt_b43 a0 a1 a2 a3 a4 h
  · refine s_aload_n (pc := 29) (k0 := 0) (i := 0) rfl 0 rfl (by decide +kernel) ?_
    refine s_aload_n (pc := 30) (k0 := 0) (i := 0) rfl 0 rfl (by decide +kernel) ?_
    refine S_gd (fun c1 => ?_)
    refine s_getI (pc := 31) (k := 8) c1 ft_X1_18 rfl (by decide +kernel) ?_
    refine s_iload (pc := 34) (i := 4) 4 rfl (by decide +kernel) ?_
    refine s_iload_n (pc := 36) (k0 := 2) (i := 2) rfl 2 rfl (by decide +kernel) ?_
    refine s_cVi (pc := 37) [.int (hI h a0 8), .int a4, .int a2] (tX1_orderAt a0 (hI h a0 8) a4 a2 h) c1 cw_X1_113 rfl ⟨⟨Nat.le_of_ble_eq_true rfl, Nat.le_of_ble_eq_true rfl⟩, Nat.le_of_ble_eq_true rfl⟩ rfl (by decide +kernel) (fun w4 g2 e3 => ?_)
    refine s_if_ge (pc := 40) (off := 7) 47 (by decide +kernel) (by decide) (fun _ => ?_) (fun _ => ?_)
    · exact pX1_meetAt_b47 a0 a1 a2 a3 a4 g2
    · exact pX1_meetAt_b43 a0 a1 a2 a3 a4 g2
theorem pX1_meetAt_e    (a0 : Nat) (a1 : Nat) (a2 : Int32) (a3 : Int32) (a4 : Int32) (h : xH) : S emV kX1_meetAt h 0 [(0, .ref a0), (1, .ref a1), (2, .int a2), (3, .int a3), (4, .int a4)] [] h (fX1_meetAt  a0 a1 a2 a3 a4 h) := by
  unfold fX1_meetAt
  refine s_aload_n (pc := 0) (k0 := 0) (i := 0) rfl 0 rfl (by decide +kernel) ?_
  refine S_gd (fun c1 => ?_)
  refine s_getI (pc := 1) (k := 8) c1 ft_X1_18 rfl (by decide +kernel) ?_
  refine s_if_lt (pc := 4) (off := 43) 47 (by decide +kernel) (by decide) (fun _ => ?_) (fun _ => ?_)
  · exact pX1_meetAt_b47 a0 a1 a2 a3 a4 h
  · refine s_iload_n (pc := 7) (k0 := 3) (i := 3) rfl 3 rfl (by decide +kernel) ?_
    refine s_if_lt (pc := 8) (off := 16) 24 (by decide +kernel) (by decide) (fun _ => ?_) (fun _ => ?_)
    · exact pX1_meetAt_b24 a0 a1 a2 a3 a4 h
    · refine s_aload_n (pc := 11) (k0 := 0) (i := 0) rfl 0 rfl (by decide +kernel) ?_
      refine s_aload_n (pc := 12) (k0 := 0) (i := 0) rfl 0 rfl (by decide +kernel) ?_
      refine s_getI (pc := 13) (k := 8) c1 ft_X1_18 rfl (by decide +kernel) ?_
      refine s_iload_n (pc := 16) (k0 := 3) (i := 3) rfl 3 rfl (by decide +kernel) ?_
      refine s_iload_n (pc := 17) (k0 := 2) (i := 2) rfl 2 rfl (by decide +kernel) ?_
      refine s_cVi (pc := 18) [.int (hI h a0 8), .int a3, .int a2] (tX1_orderAt a0 (hI h a0 8) a3 a2 h) c1 cw_X1_113 rfl ⟨⟨Nat.le_of_ble_eq_true rfl, Nat.le_of_ble_eq_true rfl⟩, Nat.le_of_ble_eq_true rfl⟩ rfl (by decide +kernel) (fun w4 g2 e3 => ?_)
      refine s_if_ge (pc := 21) (off := 26) 47 (by decide +kernel) (by decide) (fun _ => ?_) (fun _ => ?_)
      · exact pX1_meetAt_b47 a0 a1 a2 a3 a4 g2
      · exact pX1_meetAt_b24 a0 a1 a2 a3 a4 g2
theorem tX1_meetAt (a0 : Nat) (a1 : Nat) (a2 : Int32) (a3 : Int32) (a4 : Int32) (h : xH) : Ct yX1_meetAt kX1_meetAt emV [.ref a0, .ref a1, .int a2, .int a3, .int a4] h (fX1_meetAt a0 a1 a2 a3 a4 h) := Ct_of (by decide +kernel) rfl rfl rfl (Nat.le_of_ble_eq_true rfl) rfl (pX1_meetAt_e a0 a1 a2 a3 a4 h)
def fX1_crossingBottom   (a0 : Nat) (a1 : Int32) (a2 : Int32) (h : xH) : Option (Int64 × xH) :=
  if kc h a0 = 1 then
  if kc h (hR h a0 4) = 9 then
  if ix a1 (kl h (hR h a0 4)) then
  if kc h (hR h a0 5) = 9 then
  if ix a2 (kl h (hR h a0 5)) then
  if ix a2 (kl h (hR h a0 4)) then
  if ix a1 (kl h (hR h a0 5)) then
  some ((((hJ h (hR h a0 4) a1.toNatClampNeg) * (hJ h (hR h a0 5) a2.toNatClampNeg)) - ((hJ h (hR h a0 4) a2.toNatClampNeg) * (hJ h (hR h a0 5) a1.toNatClampNeg))), h)
  else none
  else none
  else none
  else none
  else none
  else none
  else none
theorem pX1_crossingBottom_e    (a0 : Nat) (a1 : Int32) (a2 : Int32) (h : xH) : S emJ kX1_crossingBottom h 0 [(0, .ref a0), (1, .int a1), (2, .int a2)] [] h (fX1_crossingBottom  a0 a1 a2 h) := by
  unfold fX1_crossingBottom
  refine s_aload_n (pc := 0) (k0 := 0) (i := 0) rfl 0 rfl (by decide +kernel) ?_
  refine S_gd (fun c1 => ?_)
  refine s_getR (pc := 1) (k := 4) c1 ft_X1_36 rfl (by decide +kernel) ?_
  refine s_iload_n (pc := 4) (k0 := 1) (i := 1) rfl 1 rfl (by decide +kernel) ?_
  refine S_gd (fun c2 => ?_)
  refine S_gd (fun c3 => ?_)
  refine s_lald (pc := 5) c2 c3 (by decide +kernel) ?_
  refine s_aload_n (pc := 6) (k0 := 0) (i := 0) rfl 0 rfl (by decide +kernel) ?_
  refine s_getR (pc := 7) (k := 5) c1 ft_X1_39 rfl (by decide +kernel) ?_
  refine s_iload_n (pc := 10) (k0 := 2) (i := 2) rfl 2 rfl (by decide +kernel) ?_
  refine S_gd (fun c4 => ?_)
  refine S_gd (fun c5 => ?_)
  refine s_lald (pc := 11) c4 c5 (by decide +kernel) ?_
  refine s_lmul (pc := 12) (by decide +kernel) ?_
  refine s_aload_n (pc := 13) (k0 := 0) (i := 0) rfl 0 rfl (by decide +kernel) ?_
  refine s_getR (pc := 14) (k := 4) c1 ft_X1_36 rfl (by decide +kernel) ?_
  refine s_iload_n (pc := 17) (k0 := 2) (i := 2) rfl 2 rfl (by decide +kernel) ?_
  refine S_gd (fun c6 => ?_)
  refine s_lald (pc := 18) c2 c6 (by decide +kernel) ?_
  refine s_aload_n (pc := 19) (k0 := 0) (i := 0) rfl 0 rfl (by decide +kernel) ?_
  refine s_getR (pc := 20) (k := 5) c1 ft_X1_39 rfl (by decide +kernel) ?_
  refine s_iload_n (pc := 23) (k0 := 1) (i := 1) rfl 1 rfl (by decide +kernel) ?_
  refine S_gd (fun c7 => ?_)
  refine s_lald (pc := 24) c4 c7 (by decide +kernel) ?_
  refine s_lmul (pc := 25) (by decide +kernel) ?_
  refine s_lsub (pc := 26) (by decide +kernel) ?_
  exact s_lret (pc := 27) rfl (by decide +kernel)
theorem tX1_crossingBottom (a0 : Nat) (a1 : Int32) (a2 : Int32) (h : xH) : Ct yX1_crossingBottom kX1_crossingBottom emJ [.ref a0, .int a1, .int a2] h (fX1_crossingBottom a0 a1 a2 h) := Ct_of (by decide +kernel) rfl rfl rfl (Nat.le_of_ble_eq_true rfl) rfl (pX1_crossingBottom_e a0 a1 a2 h)
def fX1_crossingTop   (a0 : Nat) (a1 : Int32) (a2 : Int32) (h : xH) : Option (Int64 × xH) :=
  if kc h a0 = 1 then
  if kc h (hR h a0 3) = 9 then
  if ix a2 (kl h (hR h a0 3)) then
  if kc h (hR h a0 5) = 9 then
  if ix a1 (kl h (hR h a0 5)) then
  if ix a1 (kl h (hR h a0 3)) then
  if ix a2 (kl h (hR h a0 5)) then
  some ((((hJ h (hR h a0 3) a2.toNatClampNeg) * (hJ h (hR h a0 5) a1.toNatClampNeg)) - ((hJ h (hR h a0 3) a1.toNatClampNeg) * (hJ h (hR h a0 5) a2.toNatClampNeg))), h)
  else none
  else none
  else none
  else none
  else none
  else none
  else none
theorem pX1_crossingTop_e    (a0 : Nat) (a1 : Int32) (a2 : Int32) (h : xH) : S emJ kX1_crossingTop h 0 [(0, .ref a0), (1, .int a1), (2, .int a2)] [] h (fX1_crossingTop  a0 a1 a2 h) := by
  unfold fX1_crossingTop
  refine s_aload_n (pc := 0) (k0 := 0) (i := 0) rfl 0 rfl (by decide +kernel) ?_
  refine S_gd (fun c1 => ?_)
  refine s_getR (pc := 1) (k := 3) c1 ft_X1_32 rfl (by decide +kernel) ?_
  refine s_iload_n (pc := 4) (k0 := 2) (i := 2) rfl 2 rfl (by decide +kernel) ?_
  refine S_gd (fun c2 => ?_)
  refine S_gd (fun c3 => ?_)
  refine s_lald (pc := 5) c2 c3 (by decide +kernel) ?_
  refine s_aload_n (pc := 6) (k0 := 0) (i := 0) rfl 0 rfl (by decide +kernel) ?_
  refine s_getR (pc := 7) (k := 5) c1 ft_X1_39 rfl (by decide +kernel) ?_
  refine s_iload_n (pc := 10) (k0 := 1) (i := 1) rfl 1 rfl (by decide +kernel) ?_
  refine S_gd (fun c4 => ?_)
  refine S_gd (fun c5 => ?_)
  refine s_lald (pc := 11) c4 c5 (by decide +kernel) ?_
  refine s_lmul (pc := 12) (by decide +kernel) ?_
  refine s_aload_n (pc := 13) (k0 := 0) (i := 0) rfl 0 rfl (by decide +kernel) ?_
  refine s_getR (pc := 14) (k := 3) c1 ft_X1_32 rfl (by decide +kernel) ?_
  refine s_iload_n (pc := 17) (k0 := 1) (i := 1) rfl 1 rfl (by decide +kernel) ?_
  refine S_gd (fun c6 => ?_)
  refine s_lald (pc := 18) c2 c6 (by decide +kernel) ?_
  refine s_aload_n (pc := 19) (k0 := 0) (i := 0) rfl 0 rfl (by decide +kernel) ?_
  refine s_getR (pc := 20) (k := 5) c1 ft_X1_39 rfl (by decide +kernel) ?_
  refine s_iload_n (pc := 23) (k0 := 2) (i := 2) rfl 2 rfl (by decide +kernel) ?_
  refine S_gd (fun c7 => ?_)
  refine s_lald (pc := 24) c4 c7 (by decide +kernel) ?_
  refine s_lmul (pc := 25) (by decide +kernel) ?_
  refine s_lsub (pc := 26) (by decide +kernel) ?_
  exact s_lret (pc := 27) rfl (by decide +kernel)
theorem tX1_crossingTop (a0 : Nat) (a1 : Int32) (a2 : Int32) (h : xH) : Ct yX1_crossingTop kX1_crossingTop emJ [.ref a0, .int a1, .int a2] h (fX1_crossingTop a0 a1 a2 h) := Ct_of (by decide +kernel) rfl rfl rfl (Nat.le_of_ble_eq_true rfl) rfl (pX1_crossingTop_e a0 a1 a2 h)
def fX1_firstCrossing_b123 (r10 : Nat → Int32 → Int32 → Int64 → Int64 → Int32 → xH → Option (Int32 × xH))  (a0 : Nat) (a1 : Int32) (a2 : Int32) (a3 : Int64) (a5 : Int64) (a7 : Int32) (h : xH) : Option (Int32 × xH) :=
  lt (a7 + (1 : Int32)) (fun v1 =>
  r10 a0 a1 a2 a3 a5 v1 h)
def fX1_firstCrossing_b113 (r10 : Nat → Int32 → Int32 → Int64 → Int64 → Int32 → xH → Option (Int32 × xH))  (a0 : Nat) (a1 : Int32) (a7 : Int32) (a8 : Int32) (a9 : Int64) (a11 : Int64) (h : xH) : Option (Int32 × xH) :=
  fX1_firstCrossing_b123 r10 a0 a1 a8 a11 a9 a7 h
def fX1_firstCrossing_b91 (r10 : Nat → Int32 → Int32 → Int64 → Int64 → Int32 → xH → Option (Int32 × xH)) (s0 : Int32) (a0 : Nat) (a1 : Int32) (a2 : Int32) (a3 : Int64) (a5 : Int64) (a7 : Int32) (a8 : Int32) (a9 : Int64) (a11 : Int64) (h : xH) : Option (Int32 × xH) :=
  if s0 < 0 then (
  fX1_firstCrossing_b113 r10 a0 a1 a7 a8 a9 a11 h)
  else (
  if s0 = 0 then (
  if kc h a0 = 1 then
  bd (fX1_steepness a0 a8 a2 h) (fun w4 g2 =>
  if 0 ≤ w4 then (
  fX1_firstCrossing_b123 r10 a0 a1 a2 a3 a5 a7 g2)
  else (
  fX1_firstCrossing_b113 r10 a0 a1 a7 a8 a9 a11 g2))
  else none)
  else (
  fX1_firstCrossing_b123 r10 a0 a1 a2 a3 a5 a7 h))
def fX1_firstCrossing_b10 (r10 : Nat → Int32 → Int32 → Int64 → Int64 → Int32 → xH → Option (Int32 × xH))  (a0 : Nat) (a1 : Int32) (a2 : Int32) (a3 : Int64) (a5 : Int64) (a7 : Int32) (h : xH) : Option (Int32 × xH) :=
  if kc h a0 = 1 then
  if (hI h a0 7) ≤ a7 then (
  some (a2, h))
  else (
  if kc h (hR h a0 6) = 8 then
  if ix a7 (kl h (hR h a0 6)) then
  lt (hI h (hR h a0 6) a7.toNatClampNeg) (fun v4 =>
  bd (fX1_crossingBottom a0 a1 v4 h) (fun w7 g5 =>
  if 0 < (lg_cmp w7 (0 : Int64)) then (
  bd (fX1_crossingTop a0 a1 v4 g5) (fun w11 g9 =>
  if (lg_cmp w11 (w7 * ((hI g9 a0 9).toInt64))) < 0 then (
  if 0 ≤ a2 then (
  bd (fX2_order w11 w7 a3 a5 g9) (fun w15 g13 =>
  fX1_firstCrossing_b91 r10 w15 a0 a1 a2 a3 a5 a7 v4 w7 w11 g13))
  else (
  fX1_firstCrossing_b91 r10 (-1 : Int32) a0 a1 a2 a3 a5 a7 v4 w7 w11 g9))
  else (
  fX1_firstCrossing_b123 r10 a0 a1 a2 a3 a5 a7 g9)))
  else (
  fX1_firstCrossing_b123 r10 a0 a1 a2 a3 a5 a7 g5)))
  else none
  else none)
  else none
def fX1_firstCrossing_l10  : Nat → Nat → Int32 → Int32 → Int64 → Int64 → Int32 → xH → Option (Int32 × xH)
  | 0 => fun _ _ _ _ _ _ _ => none
  | k + 1 => fX1_firstCrossing_b10 (fX1_firstCrossing_l10  k)
def fX1_firstCrossing   (a0 : Nat) (a1 : Int32) (h : xH) : Option (Int32 × xH) :=
  lt (-1 : Int32) (fun v1 =>
  lt (0 : Int64) (fun v2 =>
  lt (1 : Int64) (fun v3 =>
  lt (0 : Int32) (fun v4 =>
  fX1_firstCrossing_l10 FU a0 a1 v1 v2 v3 v4 h))))
theorem pX1_firstCrossing_b123 {h0 : xH} {r10 : Nat → Int32 → Int32 → Int64 → Int64 → Int32 → xH → Option (Int32 × xH)} (hr10 : ∀  (a0 : Nat) (a1 : Int32) (a2 : Int32) (a3 : Int64) (a5 : Int64) (a7 : Int32) (g : xH), S emI kX1_firstCrossing h0 10 [(0, .ref a0), (1, .int a1), (2, .int a2), (3, .long a3), (5, .long a5), (7, .int a7)] [] g (r10  a0 a1 a2 a3 a5 a7 g))  (a0 : Nat) (a1 : Int32) (a2 : Int32) (a3 : Int64) (a5 : Int64) (a7 : Int32) (h : xH) : S emI kX1_firstCrossing h0 123 [(0, .ref a0), (1, .int a1), (2, .int a2), (3, .long a3), (5, .long a5), (7, .int a7)] [] h (fX1_firstCrossing_b123 r10 a0 a1 a2 a3 a5 a7 h) := by
  unfold fX1_firstCrossing_b123
  refine s_iinc (pc := 123) (L' := [(7, .int (a7 + (1 : Int32))), (0, .ref a0), (1, .int a1), (2, .int a2), (3, .long a3), (5, .long a5)]) (i := 7) (n := 1) 5 rfl rfl (by decide) rfl (by decide +kernel) ?_
  refine s_nmI0 (e := a7 + (1 : Int32)) (L := fun v1 => [(7, .int v1), (0, .ref a0), (1, .int a1), (2, .int a2), (3, .long a3), (5, .long a5)]) (fun v1 => ?_)
  refine s_goto (pc := 126) (off := -116) 10 (by decide +kernel) (by decide) ?_
  refine S_sub [1, 2, 3, 4, 5, 0] rfl ?_
  exact hr10 a0 a1 a2 a3 a5 v1 h
theorem pX1_firstCrossing_b113 {h0 : xH} {r10 : Nat → Int32 → Int32 → Int64 → Int64 → Int32 → xH → Option (Int32 × xH)} (hr10 : ∀  (a0 : Nat) (a1 : Int32) (a2 : Int32) (a3 : Int64) (a5 : Int64) (a7 : Int32) (g : xH), S emI kX1_firstCrossing h0 10 [(0, .ref a0), (1, .int a1), (2, .int a2), (3, .long a3), (5, .long a5), (7, .int a7)] [] g (r10  a0 a1 a2 a3 a5 a7 g))  (a0 : Nat) (a1 : Int32) (a7 : Int32) (a8 : Int32) (a9 : Int64) (a11 : Int64) (h : xH) : S emI kX1_firstCrossing h0 113 [(0, .ref a0), (1, .int a1), (7, .int a7), (8, .int a8), (9, .long a9), (11, .long a11)] [] h (fX1_firstCrossing_b113 r10 a0 a1 a7 a8 a9 a11 h) := by
  unfold fX1_firstCrossing_b113
  refine s_iload (pc := 113) (i := 8) 3 rfl (by decide +kernel) ?_
  refine s_istore_n (pc := 115) (L' := [(2, .int a8), (0, .ref a0), (1, .int a1), (7, .int a7), (8, .int a8), (9, .long a9), (11, .long a11)]) (k0 := 2) (i := 2) rfl (by decide) rfl (by decide +kernel) ?_
  refine s_lload (pc := 116) (i := 11) 6 rfl (by decide +kernel) ?_
  refine s_lstore_n (pc := 118) (L' := [(3, .long a11), (2, .int a8), (0, .ref a0), (1, .int a1), (7, .int a7), (8, .int a8), (9, .long a9), (11, .long a11)]) (k0 := 3) (i := 3) rfl (by decide) rfl (by decide +kernel) ?_
  refine s_lload (pc := 119) (i := 9) 6 rfl (by decide +kernel) ?_
  refine s_lstore (pc := 121) (L' := [(5, .long a9), (3, .long a11), (2, .int a8), (0, .ref a0), (1, .int a1), (7, .int a7), (8, .int a8), (9, .long a9), (11, .long a11)]) (i := 5) (by decide) rfl (by decide +kernel) ?_
  refine S_sub [3, 4, 2, 1, 0, 5] rfl ?_
  exact pX1_firstCrossing_b123 hr10 a0 a1 a8 a11 a9 a7 h
theorem pX1_firstCrossing_b91 {h0 : xH} {r10 : Nat → Int32 → Int32 → Int64 → Int64 → Int32 → xH → Option (Int32 × xH)} (hr10 : ∀  (a0 : Nat) (a1 : Int32) (a2 : Int32) (a3 : Int64) (a5 : Int64) (a7 : Int32) (g : xH), S emI kX1_firstCrossing h0 10 [(0, .ref a0), (1, .int a1), (2, .int a2), (3, .long a3), (5, .long a5), (7, .int a7)] [] g (r10  a0 a1 a2 a3 a5 a7 g)) (s0 : Int32) (a0 : Nat) (a1 : Int32) (a2 : Int32) (a3 : Int64) (a5 : Int64) (a7 : Int32) (a8 : Int32) (a9 : Int64) (a11 : Int64) (h : xH) : S emI kX1_firstCrossing h0 91 [(0, .ref a0), (1, .int a1), (2, .int a2), (3, .long a3), (5, .long a5), (7, .int a7), (8, .int a8), (9, .long a9), (11, .long a11)] [.int s0] h (fX1_firstCrossing_b91 r10 s0 a0 a1 a2 a3 a5 a7 a8 a9 a11 h) := by
  unfold fX1_firstCrossing_b91
  refine s_istore (pc := 91) (L' := [(13, .int s0), (0, .ref a0), (1, .int a1), (2, .int a2), (3, .long a3), (5, .long a5), (7, .int a7), (8, .int a8), (9, .long a9), (11, .long a11)]) (i := 13) (by decide) rfl (by decide +kernel) ?_
  refine s_iload (pc := 93) (i := 13) 0 rfl (by decide +kernel) ?_
  refine s_if_lt (pc := 95) (off := 18) 113 (by decide +kernel) (by decide) (fun _ => ?_) (fun _ => ?_)
  · refine S_sub [1, 2, 6, 7, 8, 9] rfl ?_
    exact pX1_firstCrossing_b113 hr10 a0 a1 a7 a8 a9 a11 h
  · refine s_iload (pc := 98) (i := 13) 0 rfl (by decide +kernel) ?_
    refine s_if_ne (pc := 100) (off := 23) 123 (by decide +kernel) (by decide) (fun _ => ?_) (fun _ => ?_)
    · refine s_aload_n (pc := 103) (k0 := 0) (i := 0) rfl 1 rfl (by decide +kernel) ?_
      refine s_iload (pc := 104) (i := 8) 7 rfl (by decide +kernel) ?_
      refine s_iload_n (pc := 106) (k0 := 2) (i := 2) rfl 3 rfl (by decide +kernel) ?_
      refine S_gd (fun c1 => ?_)
      refine s_cVi (pc := 107) [.int a8, .int a2] (tX1_steepness a0 a8 a2 h) c1 cw_X1_117 rfl ⟨⟨Nat.le_of_ble_eq_true rfl, Nat.le_of_ble_eq_true rfl⟩, Nat.le_of_ble_eq_true rfl⟩ rfl (by decide +kernel) (fun w4 g2 e3 => ?_)
      refine s_if_ge (pc := 110) (off := 13) 123 (by decide +kernel) (by decide) (fun _ => ?_) (fun _ => ?_)
      · refine S_sub [1, 2, 3, 4, 5, 6] rfl ?_
        exact pX1_firstCrossing_b123 hr10 a0 a1 a2 a3 a5 a7 g2
      · refine S_sub [1, 2, 6, 7, 8, 9] rfl ?_
        exact pX1_firstCrossing_b113 hr10 a0 a1 a7 a8 a9 a11 g2
    · refine S_sub [1, 2, 3, 4, 5, 6] rfl ?_
      exact pX1_firstCrossing_b123 hr10 a0 a1 a2 a3 a5 a7 h
theorem pX1_firstCrossing_b10 {h0 : xH} {r10 : Nat → Int32 → Int32 → Int64 → Int64 → Int32 → xH → Option (Int32 × xH)} (hr10 : ∀  (a0 : Nat) (a1 : Int32) (a2 : Int32) (a3 : Int64) (a5 : Int64) (a7 : Int32) (g : xH), S emI kX1_firstCrossing h0 10 [(0, .ref a0), (1, .int a1), (2, .int a2), (3, .long a3), (5, .long a5), (7, .int a7)] [] g (r10  a0 a1 a2 a3 a5 a7 g))  (a0 : Nat) (a1 : Int32) (a2 : Int32) (a3 : Int64) (a5 : Int64) (a7 : Int32) (h : xH) : S emI kX1_firstCrossing h0 10 [(0, .ref a0), (1, .int a1), (2, .int a2), (3, .long a3), (5, .long a5), (7, .int a7)] [] h (fX1_firstCrossing_b10 r10 a0 a1 a2 a3 a5 a7 h) := by
  unfold fX1_firstCrossing_b10
  refine s_iload (pc := 10) (i := 7) 5 rfl (by decide +kernel) ?_
  refine s_aload_n (pc := 12) (k0 := 0) (i := 0) rfl 0 rfl (by decide +kernel) ?_
  refine S_gd (fun c1 => ?_)
  refine s_getI (pc := 13) (k := 7) c1 ft_X1_15 rfl (by decide +kernel) ?_
  refine s_icmp_ge (pc := 16) (off := 113) 129 (by decide +kernel) (by decide) (fun _ => ?_) (fun _ => ?_)
  · refine s_iload_n (pc := 129) (k0 := 2) (i := 2) rfl 2 rfl (by decide +kernel) ?_
    exact s_iret (pc := 130) rfl (by decide +kernel)
  · refine s_aload_n (pc := 19) (k0 := 0) (i := 0) rfl 0 rfl (by decide +kernel) ?_
    refine s_getR (pc := 20) (k := 6) c1 ft_X1_42 rfl (by decide +kernel) ?_
    refine s_iload (pc := 23) (i := 7) 5 rfl (by decide +kernel) ?_
    refine S_gd (fun c2 => ?_)
    refine S_gd (fun c3 => ?_)
    refine s_iald (pc := 25) c2 c3 (by decide +kernel) ?_
    refine s_nmI (fun v4 => ?_)
    refine s_istore (pc := 26) (L' := [(8, .int v4), (0, .ref a0), (1, .int a1), (2, .int a2), (3, .long a3), (5, .long a5), (7, .int a7)]) (i := 8) (by decide) rfl (by decide +kernel) ?_
    refine s_aload_n (pc := 28) (k0 := 0) (i := 0) rfl 1 rfl (by decide +kernel) ?_
    refine s_iload_n (pc := 29) (k0 := 1) (i := 1) rfl 2 rfl (by decide +kernel) ?_
    refine s_iload (pc := 30) (i := 8) 0 rfl (by decide +kernel) ?_
    refine s_cVj (pc := 32) [.int a1, .int v4] (tX1_crossingBottom a0 a1 v4 h) c1 cw_X1_143 rfl ⟨⟨Nat.le_of_ble_eq_true rfl, Nat.le_of_ble_eq_true rfl⟩, Nat.le_of_ble_eq_true rfl⟩ rfl (by decide +kernel) (fun w7 g5 e6 => ?_)
    refine s_lstore (pc := 35) (L' := [(9, .long w7), (8, .int v4), (0, .ref a0), (1, .int a1), (2, .int a2), (3, .long a3), (5, .long a5), (7, .int a7)]) (i := 9) (by decide) rfl (by decide +kernel) ?_
    refine s_lload (pc := 37) (i := 9) 0 rfl (by decide +kernel) ?_
    refine s_lconst (pc := 39) (n := 0) (v := (0 : Int64)) (by decide) (by decide +kernel) ?_
    refine s_lcmp (pc := 40) (by decide +kernel) ?_
    refine s_if_gt (pc := 41) (off := 6) 47 (by decide +kernel) (by decide) (fun _ => ?_) (fun _ => ?_)
    · refine s_aload_n (pc := 47) (k0 := 0) (i := 0) rfl 2 rfl (by decide +kernel) ?_
      refine s_iload_n (pc := 48) (k0 := 1) (i := 1) rfl 3 rfl (by decide +kernel) ?_
      refine s_iload (pc := 49) (i := 8) 1 rfl (by decide +kernel) ?_
      have c8 := kp e6 c1 (by decide)
      refine s_cVj (pc := 51) [.int a1, .int v4] (tX1_crossingTop a0 a1 v4 g5) c8 cw_X1_147 rfl ⟨⟨Nat.le_of_ble_eq_true rfl, Nat.le_of_ble_eq_true rfl⟩, Nat.le_of_ble_eq_true rfl⟩ rfl (by decide +kernel) (fun w11 g9 e10 => ?_)
      refine s_lstore (pc := 54) (L' := [(11, .long w11), (9, .long w7), (8, .int v4), (0, .ref a0), (1, .int a1), (2, .int a2), (3, .long a3), (5, .long a5), (7, .int a7)]) (i := 11) (by decide) rfl (by decide +kernel) ?_
      refine s_lload (pc := 56) (i := 11) 0 rfl (by decide +kernel) ?_
      refine s_lload (pc := 58) (i := 9) 1 rfl (by decide +kernel) ?_
      refine s_aload_n (pc := 60) (k0 := 0) (i := 0) rfl 3 rfl (by decide +kernel) ?_
      have c12 := kp e10 c8 (by decide)
      refine s_getI (pc := 61) (k := 9) c12 ft_X1_22 rfl (by decide +kernel) ?_
      refine s_i2l (pc := 64) (by decide +kernel) ?_
      refine s_lmul (pc := 65) (by decide +kernel) ?_
      refine s_lcmp (pc := 66) (by decide +kernel) ?_
      refine s_if_lt (pc := 67) (off := 6) 73 (by decide +kernel) (by decide) (fun _ => ?_) (fun _ => ?_)
      · refine s_iload_n (pc := 73) (k0 := 2) (i := 2) rfl 5 rfl (by decide +kernel) ?_
        refine s_if_ge (pc := 74) (off := 7) 81 (by decide +kernel) (by decide) (fun _ => ?_) (fun _ => ?_)
        · refine s_lload (pc := 81) (i := 11) 0 rfl (by decide +kernel) ?_
          refine s_lload (pc := 83) (i := 9) 1 rfl (by decide +kernel) ?_
          refine s_lload_n (pc := 85) (k0 := 3) (i := 3) rfl 6 rfl (by decide +kernel) ?_
          refine s_lload (pc := 86) (i := 5) 7 rfl (by decide +kernel) ?_
          refine s_cSi (pc := 88) [.long w11, .long w7, .long a3, .long a5] (tX2_order w11 w7 a3 a5 g9) cw_X1_120 rfl ⟨⟨Nat.le_of_ble_eq_true rfl, Nat.le_of_ble_eq_true rfl⟩, Nat.le_of_ble_eq_true rfl⟩ rfl (by decide +kernel) (fun w15 g13 e14 => ?_)
          refine S_sub [3, 4, 5, 6, 7, 8, 2, 1, 0] rfl ?_
          exact pX1_firstCrossing_b91 hr10 w15 a0 a1 a2 a3 a5 a7 v4 w7 w11 g13
        · refine s_iconst (pc := 77) (n := -1) (v := (-1 : Int32)) (by decide) (by decide +kernel) ?_
          refine s_goto (pc := 78) (off := 13) 91 (by decide +kernel) (by decide) ?_
          refine S_sub [3, 4, 5, 6, 7, 8, 2, 1, 0] rfl ?_
          exact pX1_firstCrossing_b91 hr10 (-1 : Int32) a0 a1 a2 a3 a5 a7 v4 w7 w11 g9
      · refine s_goto (pc := 70) (off := 53) 123 (by decide +kernel) (by decide) ?_
        refine S_sub [3, 4, 5, 6, 7, 8] rfl ?_
        exact pX1_firstCrossing_b123 hr10 a0 a1 a2 a3 a5 a7 g9
    · refine s_goto (pc := 44) (off := 79) 123 (by decide +kernel) (by decide) ?_
      refine S_sub [2, 3, 4, 5, 6, 7] rfl ?_
      exact pX1_firstCrossing_b123 hr10 a0 a1 a2 a3 a5 a7 g5
theorem pX1_firstCrossing_l10 {h0 : xH}   : ∀ (k : Nat)  (a0 : Nat) (a1 : Int32) (a2 : Int32) (a3 : Int64) (a5 : Int64) (a7 : Int32) (h : xH), S emI kX1_firstCrossing h0 10 [(0, .ref a0), (1, .int a1), (2, .int a2), (3, .long a3), (5, .long a5), (7, .int a7)] [] h (fX1_firstCrossing_l10  k  a0 a1 a2 a3 a5 a7 h) := by
  intro k
  induction k with
  | zero => intros; exact S_none
  | succ k ih => intro  a0 a1 a2 a3 a5 a7 h; exact pX1_firstCrossing_b10 ih  a0 a1 a2 a3 a5 a7 h
theorem pX1_firstCrossing_e    (a0 : Nat) (a1 : Int32) (h : xH) : S emI kX1_firstCrossing h 0 [(0, .ref a0), (1, .int a1)] [] h (fX1_firstCrossing  a0 a1 h) := by
  unfold fX1_firstCrossing
  refine s_iconst (pc := 0) (n := -1) (v := (-1 : Int32)) (by decide) (by decide +kernel) ?_
  refine s_nmI (fun v1 => ?_)
  refine s_istore_n (pc := 1) (L' := [(2, .int v1), (0, .ref a0), (1, .int a1)]) (k0 := 2) (i := 2) rfl (by decide) rfl (by decide +kernel) ?_
  refine s_lconst (pc := 2) (n := 0) (v := (0 : Int64)) (by decide) (by decide +kernel) ?_
  refine s_nmJ (fun v2 => ?_)
  refine s_lstore_n (pc := 3) (L' := [(3, .long v2), (2, .int v1), (0, .ref a0), (1, .int a1)]) (k0 := 3) (i := 3) rfl (by decide) rfl (by decide +kernel) ?_
  refine s_lconst (pc := 4) (n := 1) (v := (1 : Int64)) (by decide) (by decide +kernel) ?_
  refine s_nmJ (fun v3 => ?_)
  refine s_lstore (pc := 5) (L' := [(5, .long v3), (3, .long v2), (2, .int v1), (0, .ref a0), (1, .int a1)]) (i := 5) (by decide) rfl (by decide +kernel) ?_
  refine s_iconst (pc := 7) (n := 0) (v := (0 : Int32)) (by decide) (by decide +kernel) ?_
  refine s_nmI (fun v4 => ?_)
  refine s_istore (pc := 8) (L' := [(7, .int v4), (5, .long v3), (3, .long v2), (2, .int v1), (0, .ref a0), (1, .int a1)]) (i := 7) (by decide) rfl (by decide +kernel) ?_
  refine S_sub [4, 5, 3, 2, 1, 0] rfl ?_
  exact pX1_firstCrossing_l10 FU a0 a1 v1 v2 v3 v4 h
theorem tX1_firstCrossing (a0 : Nat) (a1 : Int32) (h : xH) : Ct yX1_firstCrossing kX1_firstCrossing emI [.ref a0, .int a1] h (fX1_firstCrossing a0 a1 h) := Ct_of (by decide +kernel) rfl rfl rfl (Nat.le_of_ble_eq_true rfl) rfl (pX1_firstCrossing_e a0 a1 h)
def fX1_follow_b5 (r5 : Nat → Nat → Int32 → Int32 → xH → Option (Int32 × xH))  (a0 : Nat) (a1 : Nat) (a3 : Int32) (a4 : Int32) (h : xH) : Option (Int32 × xH) :=
  if kc h a0 = 1 then
  if (hI h a0 7) ≤ a4 then (
  some (a3, h))
  else (
  if a3 < 0 then (
  some (a3, h))
  else (
  bd (fX1_firstCrossing a0 a3 h) (fun w4 g2 =>
  if 0 ≤ w4 then (
  bd (fX1_crossingBottom a0 a3 w4 g2) (fun w8 g6 =>
  if kc g6 (hR g6 a0 3) = 9 then
  if ix w4 (kl g6 (hR g6 a0 3)) then
  if kc g6 (hR g6 a0 4) = 9 then
  if ix a3 (kl g6 (hR g6 a0 4)) then
  if ix a3 (kl g6 (hR g6 a0 3)) then
  if ix w4 (kl g6 (hR g6 a0 4)) then
  lt (((hJ g6 (hR g6 a0 3) w4.toNatClampNeg) * (hJ g6 (hR g6 a0 4) a3.toNatClampNeg)) - ((hJ g6 (hR g6 a0 3) a3.toNatClampNeg) * (hJ g6 (hR g6 a0 4) w4.toNatClampNeg))) (fun v16 =>
  bd (fX1_crossingTop a0 a3 w4 g6) (fun w19 g17 =>
  if kc g17 a1 = 4 then
  bd (fX4_addKnot a1 w19 w8 v16 w8 (1 : Int32) g17) (fun _ g21 =>
  lt (a4 + (1 : Int32)) (fun v23 =>
  r5 a0 a1 w4 v23 g21))
  else none))
  else none
  else none
  else none
  else none
  else none
  else none))
  else (
  some (a3, g2)))))
  else none
def fX1_follow_l5  : Nat → Nat → Nat → Int32 → Int32 → xH → Option (Int32 × xH)
  | 0 => fun _ _ _ _ _ => none
  | k + 1 => fX1_follow_b5 (fX1_follow_l5  k)
def fX1_follow   (a0 : Nat) (a1 : Nat) (a2 : Int32) (h : xH) : Option (Int32 × xH) :=
  lt (0 : Int32) (fun v1 =>
  fX1_follow_l5 FU a0 a1 a2 v1 h)
theorem pX1_follow_b5 {h0 : xH} {r5 : Nat → Nat → Int32 → Int32 → xH → Option (Int32 × xH)} (hr5 : ∀  (a0 : Nat) (a1 : Nat) (a3 : Int32) (a4 : Int32) (g : xH), S emI kX1_follow h0 5 [(0, .ref a0), (1, .ref a1), (3, .int a3), (4, .int a4)] [] g (r5  a0 a1 a3 a4 g))  (a0 : Nat) (a1 : Nat) (a3 : Int32) (a4 : Int32) (h : xH) : S emI kX1_follow h0 5 [(0, .ref a0), (1, .ref a1), (3, .int a3), (4, .int a4)] [] h (fX1_follow_b5 r5 a0 a1 a3 a4 h) := by
  unfold fX1_follow_b5
  refine s_iload (pc := 5) (i := 4) 3 rfl (by decide +kernel) ?_
  refine s_aload_n (pc := 7) (k0 := 0) (i := 0) rfl 0 rfl (by decide +kernel) ?_
  refine S_gd (fun c1 => ?_)
  refine s_getI (pc := 8) (k := 7) c1 ft_X1_15 rfl (by decide +kernel) ?_
  refine s_icmp_ge (pc := 11) (off := 88) 99 (by decide +kernel) (by decide) (fun _ => ?_) (fun _ => ?_)
  · refine s_iload_n (pc := 99) (k0 := 3) (i := 3) rfl 2 rfl (by decide +kernel) ?_
    exact s_iret (pc := 100) rfl (by decide +kernel)
  · refine s_iload_n (pc := 14) (k0 := 3) (i := 3) rfl 2 rfl (by decide +kernel) ?_
    refine s_if_lt (pc := 15) (off := 84) 99 (by decide +kernel) (by decide) (fun _ => ?_) (fun _ => ?_)
    · refine s_iload_n (pc := 99) (k0 := 3) (i := 3) rfl 2 rfl (by decide +kernel) ?_
      exact s_iret (pc := 100) rfl (by decide +kernel)
    · refine s_aload_n (pc := 18) (k0 := 0) (i := 0) rfl 0 rfl (by decide +kernel) ?_
      refine s_iload_n (pc := 19) (k0 := 3) (i := 3) rfl 2 rfl (by decide +kernel) ?_
      refine s_cVi (pc := 20) [.int a3] (tX1_firstCrossing a0 a3 h) c1 cw_X1_140 rfl ⟨⟨Nat.le_of_ble_eq_true rfl, Nat.le_of_ble_eq_true rfl⟩, Nat.le_of_ble_eq_true rfl⟩ rfl (by decide +kernel) (fun w4 g2 e3 => ?_)
      refine s_istore (pc := 23) (L' := [(5, .int w4), (0, .ref a0), (1, .ref a1), (3, .int a3), (4, .int a4)]) (i := 5) (by decide) rfl (by decide +kernel) ?_
      refine s_iload (pc := 25) (i := 5) 0 rfl (by decide +kernel) ?_
      refine s_if_ge (pc := 27) (off := 5) 32 (by decide +kernel) (by decide) (fun _ => ?_) (fun _ => ?_)
      · refine s_aload_n (pc := 32) (k0 := 0) (i := 0) rfl 1 rfl (by decide +kernel) ?_
        refine s_iload_n (pc := 33) (k0 := 3) (i := 3) rfl 3 rfl (by decide +kernel) ?_
        refine s_iload (pc := 34) (i := 5) 0 rfl (by decide +kernel) ?_
        have c5 := kp e3 c1 (by decide)
        refine s_cVj (pc := 36) [.int a3, .int w4] (tX1_crossingBottom a0 a3 w4 g2) c5 cw_X1_143 rfl ⟨⟨Nat.le_of_ble_eq_true rfl, Nat.le_of_ble_eq_true rfl⟩, Nat.le_of_ble_eq_true rfl⟩ rfl (by decide +kernel) (fun w8 g6 e7 => ?_)
        refine s_lstore (pc := 39) (L' := [(6, .long w8), (5, .int w4), (0, .ref a0), (1, .ref a1), (3, .int a3), (4, .int a4)]) (i := 6) (by decide) rfl (by decide +kernel) ?_
        refine s_aload_n (pc := 41) (k0 := 0) (i := 0) rfl 2 rfl (by decide +kernel) ?_
        have c9 := kp e7 c5 (by decide)
        refine s_getR (pc := 42) (k := 3) c9 ft_X1_32 rfl (by decide +kernel) ?_
        refine s_iload (pc := 45) (i := 5) 1 rfl (by decide +kernel) ?_
        refine S_gd (fun c10 => ?_)
        refine S_gd (fun c11 => ?_)
        refine s_lald (pc := 47) c10 c11 (by decide +kernel) ?_
        refine s_aload_n (pc := 48) (k0 := 0) (i := 0) rfl 2 rfl (by decide +kernel) ?_
        refine s_getR (pc := 49) (k := 4) c9 ft_X1_36 rfl (by decide +kernel) ?_
        refine s_iload_n (pc := 52) (k0 := 3) (i := 3) rfl 4 rfl (by decide +kernel) ?_
        refine S_gd (fun c12 => ?_)
        refine S_gd (fun c13 => ?_)
        refine s_lald (pc := 53) c12 c13 (by decide +kernel) ?_
        refine s_lmul (pc := 54) (by decide +kernel) ?_
        refine s_aload_n (pc := 55) (k0 := 0) (i := 0) rfl 2 rfl (by decide +kernel) ?_
        refine s_getR (pc := 56) (k := 3) c9 ft_X1_32 rfl (by decide +kernel) ?_
        refine s_iload_n (pc := 59) (k0 := 3) (i := 3) rfl 4 rfl (by decide +kernel) ?_
        refine S_gd (fun c14 => ?_)
        refine s_lald (pc := 60) c10 c14 (by decide +kernel) ?_
        refine s_aload_n (pc := 61) (k0 := 0) (i := 0) rfl 2 rfl (by decide +kernel) ?_
        refine s_getR (pc := 62) (k := 4) c9 ft_X1_36 rfl (by decide +kernel) ?_
        refine s_iload (pc := 65) (i := 5) 1 rfl (by decide +kernel) ?_
        refine S_gd (fun c15 => ?_)
        refine s_lald (pc := 67) c12 c15 (by decide +kernel) ?_
        refine s_lmul (pc := 68) (by decide +kernel) ?_
        refine s_lsub (pc := 69) (by decide +kernel) ?_
        refine s_nmJ (fun v16 => ?_)
        refine s_lstore (pc := 70) (L' := [(8, .long v16), (6, .long w8), (5, .int w4), (0, .ref a0), (1, .ref a1), (3, .int a3), (4, .int a4)]) (i := 8) (by decide) rfl (by decide +kernel) ?_
        refine s_aload_n (pc := 72) (k0 := 1) (i := 1) rfl 4 rfl (by decide +kernel) ?_
        refine s_aload_n (pc := 73) (k0 := 0) (i := 0) rfl 3 rfl (by decide +kernel) ?_
        refine s_iload_n (pc := 74) (k0 := 3) (i := 3) rfl 5 rfl (by decide +kernel) ?_
        refine s_iload (pc := 75) (i := 5) 2 rfl (by decide +kernel) ?_
        refine s_cVj (pc := 77) [.int a3, .int w4] (tX1_crossingTop a0 a3 w4 g6) c9 cw_X1_147 rfl ⟨⟨Nat.le_of_ble_eq_true rfl, Nat.le_of_ble_eq_true rfl⟩, Nat.le_of_ble_eq_true rfl⟩ rfl (by decide +kernel) (fun w19 g17 e18 => ?_)
        refine s_lload (pc := 80) (i := 6) 1 rfl (by decide +kernel) ?_
        refine s_lload (pc := 82) (i := 8) 0 rfl (by decide +kernel) ?_
        refine s_lload (pc := 84) (i := 6) 1 rfl (by decide +kernel) ?_
        refine s_iconst (pc := 86) (n := 1) (v := (1 : Int32)) (by decide) (by decide +kernel) ?_
        refine S_gd (fun c20 => ?_)
        refine s_cVv (pc := 87) [.long w19, .long w8, .long v16, .long w8, .int (1 : Int32)] (tX4_addKnot a1 w19 w8 v16 w8 (1 : Int32) g17) c20 cw_X1_136 rfl ⟨⟨Nat.le_of_ble_eq_true rfl, Nat.le_of_ble_eq_true rfl⟩, Nat.le_of_ble_eq_true rfl⟩ rfl (by decide +kernel) (fun _ g21 e22 => ?_)
        refine s_iload (pc := 90) (i := 5) 2 rfl (by decide +kernel) ?_
        refine s_istore_n (pc := 92) (L' := [(3, .int w4), (8, .long v16), (6, .long w8), (5, .int w4), (0, .ref a0), (1, .ref a1), (4, .int a4)]) (k0 := 3) (i := 3) rfl (by decide) rfl (by decide +kernel) ?_
        refine s_iinc (pc := 93) (L' := [(4, .int (a4 + (1 : Int32))), (3, .int w4), (8, .long v16), (6, .long w8), (5, .int w4), (0, .ref a0), (1, .ref a1)]) (i := 4) (n := 1) 6 rfl rfl (by decide) rfl (by decide +kernel) ?_
        refine s_nmI0 (e := a4 + (1 : Int32)) (L := fun v23 => [(4, .int v23), (3, .int w4), (8, .long v16), (6, .long w8), (5, .int w4), (0, .ref a0), (1, .ref a1)]) (fun v23 => ?_)
        refine s_goto (pc := 96) (off := -91) 5 (by decide +kernel) (by decide) ?_
        refine S_sub [5, 6, 1, 0] rfl ?_
        exact hr5 a0 a1 w4 v23 g21
      · refine s_iload_n (pc := 30) (k0 := 3) (i := 3) rfl 3 rfl (by decide +kernel) ?_
        exact s_iret (pc := 31) rfl (by decide +kernel)
theorem pX1_follow_l5 {h0 : xH}   : ∀ (k : Nat)  (a0 : Nat) (a1 : Nat) (a3 : Int32) (a4 : Int32) (h : xH), S emI kX1_follow h0 5 [(0, .ref a0), (1, .ref a1), (3, .int a3), (4, .int a4)] [] h (fX1_follow_l5  k  a0 a1 a3 a4 h) := by
  intro k
  induction k with
  | zero => intros; exact S_none
  | succ k ih => intro  a0 a1 a3 a4 h; exact pX1_follow_b5 ih  a0 a1 a3 a4 h
theorem pX1_follow_e    (a0 : Nat) (a1 : Nat) (a2 : Int32) (h : xH) : S emI kX1_follow h 0 [(0, .ref a0), (1, .ref a1), (2, .int a2)] [] h (fX1_follow  a0 a1 a2 h) := by
  unfold fX1_follow
  refine s_iload_n (pc := 0) (k0 := 2) (i := 2) rfl 2 rfl (by decide +kernel) ?_
  refine s_istore_n (pc := 1) (L' := [(3, .int a2), (0, .ref a0), (1, .ref a1), (2, .int a2)]) (k0 := 3) (i := 3) rfl (by decide) rfl (by decide +kernel) ?_
  refine s_iconst (pc := 2) (n := 0) (v := (0 : Int32)) (by decide) (by decide +kernel) ?_
  refine s_nmI (fun v1 => ?_)
  refine s_istore (pc := 3) (L' := [(4, .int v1), (3, .int a2), (0, .ref a0), (1, .ref a1), (2, .int a2)]) (i := 4) (by decide) rfl (by decide +kernel) ?_
  refine S_sub [2, 3, 1, 0] rfl ?_
  exact pX1_follow_l5 FU a0 a1 a2 v1 h
theorem tX1_follow (a0 : Nat) (a1 : Nat) (a2 : Int32) (h : xH) : Ct yX1_follow kX1_follow emI [.ref a0, .ref a1, .int a2] h (fX1_follow a0 a1 a2 h) := Ct_of (by decide +kernel) rfl rfl rfl (Nat.le_of_ble_eq_true rfl) rfl (pX1_follow_e a0 a1 a2 h)
def fX1_lowestInto_b12 (r12 : Nat → Nat → Int32 → Int32 → Int32 → xH → Option (Unit × xH))  (a0 : Nat) (a1 : Nat) (a2 : Int32) (a3 : Int32) (a4 : Int32) (h : xH) : Option (Unit × xH) :=
  if kc h a0 = 1 then
  if ((2 : Int32) * (hI h a0 0)) < a4 then (
  some ((), h))
  else (
  if a3 = (2147483647 : Int32) then (
  some ((), h))
  else (
  bd (fX1_lookAt a0 a3 h) (fun _ g2 =>
  bd (fX1_lowestLive a0 a3 g2) (fun w7 g5 =>
  bd (fX1_meetAt a0 a1 a3 a2 w7 g5) (fun _ g9 =>
  bd (fX1_follow a0 a1 w7 g9) (fun w14 g12 =>
  lt (hI g12 a0 9) (fun v16 =>
  lt (a4 + (1 : Int32)) (fun v17 =>
  r12 a0 a1 w14 v16 v17 g12))))))))
  else none
def fX1_lowestInto_l12  : Nat → Nat → Nat → Int32 → Int32 → Int32 → xH → Option (Unit × xH)
  | 0 => fun _ _ _ _ _ _ => none
  | k + 1 => fX1_lowestInto_b12 (fX1_lowestInto_l12  k)
def fX1_lowestInto   (a0 : Nat) (a1 : Nat) (h : xH) : Option (Unit × xH) :=
  if kc h a1 = 4 then
  bd (fX4_wipe a1 h) (fun _ g2 =>
  lt (-1 : Int32) (fun v4 =>
  lt (-2147483648 : Int32) (fun v5 =>
  lt (0 : Int32) (fun v6 =>
  fX1_lowestInto_l12 FU a0 a1 v4 v5 v6 g2))))
  else none
theorem pX1_lowestInto_b12 {h0 : xH} {r12 : Nat → Nat → Int32 → Int32 → Int32 → xH → Option (Unit × xH)} (hr12 : ∀  (a0 : Nat) (a1 : Nat) (a2 : Int32) (a3 : Int32) (a4 : Int32) (g : xH), S emV kX1_lowestInto h0 12 [(0, .ref a0), (1, .ref a1), (2, .int a2), (3, .int a3), (4, .int a4)] [] g (r12  a0 a1 a2 a3 a4 g))  (a0 : Nat) (a1 : Nat) (a2 : Int32) (a3 : Int32) (a4 : Int32) (h : xH) : S emV kX1_lowestInto h0 12 [(0, .ref a0), (1, .ref a1), (2, .int a2), (3, .int a3), (4, .int a4)] [] h (fX1_lowestInto_b12 r12 a0 a1 a2 a3 a4 h) := by
  unfold fX1_lowestInto_b12
  refine s_iload (pc := 12) (i := 4) 4 rfl (by decide +kernel) ?_
  refine s_iconst (pc := 14) (n := 2) (v := (2 : Int32)) (by decide) (by decide +kernel) ?_
  refine s_aload_n (pc := 15) (k0 := 0) (i := 0) rfl 0 rfl (by decide +kernel) ?_
  refine S_gd (fun c1 => ?_)
  refine s_getI (pc := 16) (k := 0) c1 ft_X1_9 rfl (by decide +kernel) ?_
  refine s_imul (pc := 19) (by decide +kernel) ?_
  refine s_icmp_gt (pc := 20) (off := 49) 69 (by decide +kernel) (by decide) (fun _ => ?_) (fun _ => ?_)
  · exact s_vret (pc := 69) rfl (by decide +kernel)
  · refine s_iload_n (pc := 23) (k0 := 3) (i := 3) rfl 3 rfl (by decide +kernel) ?_
    refine s_ldc (pc := 24) (v := (2147483647 : Int32)) (index := 21) (gd_of 140 (by decide +kernel) rfl) (by decide +kernel) ?_
    refine s_icmp_eq (pc := 26) (off := 43) 69 (by decide +kernel) (by decide) (fun _ => ?_) (fun _ => ?_)
    · exact s_vret (pc := 69) rfl (by decide +kernel)
    · refine s_aload_n (pc := 29) (k0 := 0) (i := 0) rfl 0 rfl (by decide +kernel) ?_
      refine s_iload_n (pc := 30) (k0 := 3) (i := 3) rfl 3 rfl (by decide +kernel) ?_
      refine s_cVv (pc := 31) [.int a3] (tX1_lookAt a0 a3 h) c1 cw_X1_98 rfl ⟨⟨Nat.le_of_ble_eq_true rfl, Nat.le_of_ble_eq_true rfl⟩, Nat.le_of_ble_eq_true rfl⟩ rfl (by decide +kernel) (fun _ g2 e3 => ?_)
      refine s_aload_n (pc := 34) (k0 := 0) (i := 0) rfl 0 rfl (by decide +kernel) ?_
      refine s_iload_n (pc := 35) (k0 := 3) (i := 3) rfl 3 rfl (by decide +kernel) ?_
      have c4 := kp e3 c1 (by decide)
      refine s_cVi (pc := 36) [.int a3] (tX1_lowestLive a0 a3 g2) c4 cw_X1_102 rfl ⟨⟨Nat.le_of_ble_eq_true rfl, Nat.le_of_ble_eq_true rfl⟩, Nat.le_of_ble_eq_true rfl⟩ rfl (by decide +kernel) (fun w7 g5 e6 => ?_)
      refine s_istore (pc := 39) (L' := [(5, .int w7), (0, .ref a0), (1, .ref a1), (2, .int a2), (3, .int a3), (4, .int a4)]) (i := 5) (by decide) rfl (by decide +kernel) ?_
      refine s_aload_n (pc := 41) (k0 := 0) (i := 0) rfl 1 rfl (by decide +kernel) ?_
      refine s_aload_n (pc := 42) (k0 := 1) (i := 1) rfl 2 rfl (by decide +kernel) ?_
      refine s_iload_n (pc := 43) (k0 := 3) (i := 3) rfl 4 rfl (by decide +kernel) ?_
      refine s_iload_n (pc := 44) (k0 := 2) (i := 2) rfl 3 rfl (by decide +kernel) ?_
      refine s_iload (pc := 45) (i := 5) 0 rfl (by decide +kernel) ?_
      have c8 := kp e6 c4 (by decide)
      refine s_cVv (pc := 47) [.ref a1, .int a3, .int a2, .int w7] (tX1_meetAt a0 a1 a3 a2 w7 g5) c8 cw_X1_105 rfl ⟨⟨Nat.le_of_ble_eq_true rfl, Nat.le_of_ble_eq_true rfl⟩, Nat.le_of_ble_eq_true rfl⟩ rfl (by decide +kernel) (fun _ g9 e10 => ?_)
      refine s_aload_n (pc := 50) (k0 := 0) (i := 0) rfl 1 rfl (by decide +kernel) ?_
      refine s_aload_n (pc := 51) (k0 := 1) (i := 1) rfl 2 rfl (by decide +kernel) ?_
      refine s_iload (pc := 52) (i := 5) 0 rfl (by decide +kernel) ?_
      have c11 := kp e10 c8 (by decide)
      refine s_cVi (pc := 54) [.ref a1, .int w7] (tX1_follow a0 a1 w7 g9) c11 cw_X1_109 rfl ⟨⟨Nat.le_of_ble_eq_true rfl, Nat.le_of_ble_eq_true rfl⟩, Nat.le_of_ble_eq_true rfl⟩ rfl (by decide +kernel) (fun w14 g12 e13 => ?_)
      refine s_istore_n (pc := 57) (L' := [(2, .int w14), (5, .int w7), (0, .ref a0), (1, .ref a1), (3, .int a3), (4, .int a4)]) (k0 := 2) (i := 2) rfl (by decide) rfl (by decide +kernel) ?_
      refine s_aload_n (pc := 58) (k0 := 0) (i := 0) rfl 2 rfl (by decide +kernel) ?_
      have c15 := kp e13 c11 (by decide)
      refine s_getI (pc := 59) (k := 9) c15 ft_X1_22 rfl (by decide +kernel) ?_
      refine s_nmI (fun v16 => ?_)
      refine s_istore_n (pc := 62) (L' := [(3, .int v16), (2, .int w14), (5, .int w7), (0, .ref a0), (1, .ref a1), (4, .int a4)]) (k0 := 3) (i := 3) rfl (by decide) rfl (by decide +kernel) ?_
      refine s_iinc (pc := 63) (L' := [(4, .int (a4 + (1 : Int32))), (3, .int v16), (2, .int w14), (5, .int w7), (0, .ref a0), (1, .ref a1)]) (i := 4) (n := 1) 5 rfl rfl (by decide) rfl (by decide +kernel) ?_
      refine s_nmI0 (e := a4 + (1 : Int32)) (L := fun v17 => [(4, .int v17), (3, .int v16), (2, .int w14), (5, .int w7), (0, .ref a0), (1, .ref a1)]) (fun v17 => ?_)
      refine s_goto (pc := 66) (off := -54) 12 (by decide +kernel) (by decide) ?_
      refine S_sub [4, 5, 2, 1, 0] rfl ?_
      exact hr12 a0 a1 w14 v16 v17 g12
theorem pX1_lowestInto_l12 {h0 : xH}   : ∀ (k : Nat)  (a0 : Nat) (a1 : Nat) (a2 : Int32) (a3 : Int32) (a4 : Int32) (h : xH), S emV kX1_lowestInto h0 12 [(0, .ref a0), (1, .ref a1), (2, .int a2), (3, .int a3), (4, .int a4)] [] h (fX1_lowestInto_l12  k  a0 a1 a2 a3 a4 h) := by
  intro k
  induction k with
  | zero => intros; exact S_none
  | succ k ih => intro  a0 a1 a2 a3 a4 h; exact pX1_lowestInto_b12 ih  a0 a1 a2 a3 a4 h
theorem pX1_lowestInto_e    (a0 : Nat) (a1 : Nat) (h : xH) : S emV kX1_lowestInto h 0 [(0, .ref a0), (1, .ref a1)] [] h (fX1_lowestInto  a0 a1 h) := by
  unfold fX1_lowestInto
  refine s_aload_n (pc := 0) (k0 := 1) (i := 1) rfl 1 rfl (by decide +kernel) ?_
  refine S_gd (fun c1 => ?_)
  refine s_cVv (pc := 1) [] (tX4_wipe a1 h) c1 cw_X1_94 rfl ⟨⟨Nat.le_of_ble_eq_true rfl, Nat.le_of_ble_eq_true rfl⟩, Nat.le_of_ble_eq_true rfl⟩ rfl (by decide +kernel) (fun _ g2 e3 => ?_)
  refine s_iconst (pc := 4) (n := -1) (v := (-1 : Int32)) (by decide) (by decide +kernel) ?_
  refine s_nmI (fun v4 => ?_)
  refine s_istore_n (pc := 5) (L' := [(2, .int v4), (0, .ref a0), (1, .ref a1)]) (k0 := 2) (i := 2) rfl (by decide) rfl (by decide +kernel) ?_
  refine s_ldc (pc := 6) (v := (-2147483648 : Int32)) (index := 97) (gd_of 354 (by decide +kernel) rfl) (by decide +kernel) ?_
  refine s_nmI (fun v5 => ?_)
  refine s_istore_n (pc := 8) (L' := [(3, .int v5), (2, .int v4), (0, .ref a0), (1, .ref a1)]) (k0 := 3) (i := 3) rfl (by decide) rfl (by decide +kernel) ?_
  refine s_iconst (pc := 9) (n := 0) (v := (0 : Int32)) (by decide) (by decide +kernel) ?_
  refine s_nmI (fun v6 => ?_)
  refine s_istore (pc := 10) (L' := [(4, .int v6), (3, .int v5), (2, .int v4), (0, .ref a0), (1, .ref a1)]) (i := 4) (by decide) rfl (by decide +kernel) ?_
  refine S_sub [3, 4, 2, 1, 0] rfl ?_
  exact pX1_lowestInto_l12 FU a0 a1 v4 v5 v6 g2
theorem tX1_lowestInto (a0 : Nat) (a1 : Nat) (h : xH) : Ct yX1_lowestInto kX1_lowestInto emV [.ref a0, .ref a1] h (fX1_lowestInto a0 a1 h) := Ct_of (by decide +kernel) rfl rfl rfl (Nat.le_of_ble_eq_true rfl) rfl (pX1_lowestInto_e a0 a1 h)
def fX1_addShape_b44 (r2 : Nat → Nat → Int32 → xH → Option (Unit × xH))  (a0 : Nat) (a1 : Nat) (a2 : Int32) (h : xH) : Option (Unit × xH) :=
  lt (a2 + (1 : Int32)) (fun v1 =>
  r2 a0 a1 v1 h)
def fX1_addShape_b2 (r2 : Nat → Nat → Int32 → xH → Option (Unit × xH))  (a0 : Nat) (a1 : Nat) (a2 : Int32) (h : xH) : Option (Unit × xH) :=
  if kc h a1 = 4 then
  if (hI h a1 0) ≤ a2 then (
  some ((), h))
  else (
  bd (fX4_beginsPiece a1 a2 h) (fun w4 g2 =>
  if w4 = 0 then (
  fX1_addShape_b44 r2 a0 a1 a2 g2)
  else (
  if kc g2 (hR g2 a1 1) = 9 then
  if ix a2 (kl g2 (hR g2 a1 1)) then
  if kc g2 (hR g2 a1 3) = 9 then
  if ix a2 (kl g2 (hR g2 a1 3)) then
  bd (fX4_runOf a1 a2 g2) (fun w12 g10 =>
  bd (fX4_riseOf a1 a2 g10) (fun w16 g14 =>
  if kc g14 a0 = 1 then
  bd (fX1_addBetween a0 (hJ g2 (hR g2 a1 1) a2.toNatClampNeg) (hJ g2 (hR g2 a1 3) a2.toNatClampNeg) w12 w16 g14) (fun _ g18 =>
  fX1_addShape_b44 r2 a0 a1 a2 g18)
  else none))
  else none
  else none
  else none
  else none)))
  else none
def fX1_addShape_l2  : Nat → Nat → Nat → Int32 → xH → Option (Unit × xH)
  | 0 => fun _ _ _ _ => none
  | k + 1 => fX1_addShape_b2 (fX1_addShape_l2  k)
def fX1_addShape   (a0 : Nat) (a1 : Nat) (h : xH) : Option (Unit × xH) :=
  lt (0 : Int32) (fun v1 =>
  fX1_addShape_l2 FU a0 a1 v1 h)
theorem pX1_addShape_b44 {h0 : xH} {r2 : Nat → Nat → Int32 → xH → Option (Unit × xH)} (hr2 : ∀  (a0 : Nat) (a1 : Nat) (a2 : Int32) (g : xH), S emV kX1_addShape h0 2 [(0, .ref a0), (1, .ref a1), (2, .int a2)] [] g (r2  a0 a1 a2 g))  (a0 : Nat) (a1 : Nat) (a2 : Int32) (h : xH) : S emV kX1_addShape h0 44 [(0, .ref a0), (1, .ref a1), (2, .int a2)] [] h (fX1_addShape_b44 r2 a0 a1 a2 h) := by
  unfold fX1_addShape_b44
  refine s_iinc (pc := 44) (L' := [(2, .int (a2 + (1 : Int32))), (0, .ref a0), (1, .ref a1)]) (i := 2) (n := 1) 2 rfl rfl (by decide) rfl (by decide +kernel) ?_
  refine s_nmI0 (e := a2 + (1 : Int32)) (L := fun v1 => [(2, .int v1), (0, .ref a0), (1, .ref a1)]) (fun v1 => ?_)
  refine s_goto (pc := 47) (off := -45) 2 (by decide +kernel) (by decide) ?_
  refine S_sub [1, 2, 0] rfl ?_
  exact hr2 a0 a1 v1 h
theorem pX1_addShape_b2 {h0 : xH} {r2 : Nat → Nat → Int32 → xH → Option (Unit × xH)} (hr2 : ∀  (a0 : Nat) (a1 : Nat) (a2 : Int32) (g : xH), S emV kX1_addShape h0 2 [(0, .ref a0), (1, .ref a1), (2, .int a2)] [] g (r2  a0 a1 a2 g))  (a0 : Nat) (a1 : Nat) (a2 : Int32) (h : xH) : S emV kX1_addShape h0 2 [(0, .ref a0), (1, .ref a1), (2, .int a2)] [] h (fX1_addShape_b2 r2 a0 a1 a2 h) := by
  unfold fX1_addShape_b2
  refine s_iload_n (pc := 2) (k0 := 2) (i := 2) rfl 2 rfl (by decide +kernel) ?_
  refine s_aload_n (pc := 3) (k0 := 1) (i := 1) rfl 1 rfl (by decide +kernel) ?_
  refine S_gd (fun c1 => ?_)
  refine s_getI (pc := 4) (k := 0) c1 ft_X1_49 rfl (by decide +kernel) ?_
  refine s_icmp_ge (pc := 7) (off := 43) 50 (by decide +kernel) (by decide) (fun _ => ?_) (fun _ => ?_)
  · exact s_vret (pc := 50) rfl (by decide +kernel)
  · refine s_aload_n (pc := 10) (k0 := 1) (i := 1) rfl 1 rfl (by decide +kernel) ?_
    refine s_iload_n (pc := 11) (k0 := 2) (i := 2) rfl 2 rfl (by decide +kernel) ?_
    refine s_cVi (pc := 12) [.int a2] (tX4_beginsPiece a1 a2 h) c1 cw_X1_54 rfl ⟨⟨Nat.le_of_ble_eq_true rfl, Nat.le_of_ble_eq_true rfl⟩, Nat.le_of_ble_eq_true rfl⟩ rfl (by decide +kernel) (fun w4 g2 e3 => ?_)
    refine s_if_eq (pc := 15) (off := 29) 44 (by decide +kernel) (by decide) (fun _ => ?_) (fun _ => ?_)
    · exact pX1_addShape_b44 hr2 a0 a1 a2 g2
    · refine s_aload_n (pc := 18) (k0 := 0) (i := 0) rfl 0 rfl (by decide +kernel) ?_
      refine s_aload_n (pc := 19) (k0 := 1) (i := 1) rfl 1 rfl (by decide +kernel) ?_
      have c5 := kp e3 c1 (by decide)
      refine s_getR (pc := 20) (k := 1) c5 ft_X1_58 rfl (by decide +kernel) ?_
      refine s_iload_n (pc := 23) (k0 := 2) (i := 2) rfl 2 rfl (by decide +kernel) ?_
      refine S_gd (fun c6 => ?_)
      refine S_gd (fun c7 => ?_)
      refine s_lald (pc := 24) c6 c7 (by decide +kernel) ?_
      refine s_aload_n (pc := 25) (k0 := 1) (i := 1) rfl 1 rfl (by decide +kernel) ?_
      refine s_getR (pc := 26) (k := 3) c5 ft_X1_61 rfl (by decide +kernel) ?_
      refine s_iload_n (pc := 29) (k0 := 2) (i := 2) rfl 2 rfl (by decide +kernel) ?_
      refine S_gd (fun c8 => ?_)
      refine S_gd (fun c9 => ?_)
      refine s_lald (pc := 30) c8 c9 (by decide +kernel) ?_
      refine s_aload_n (pc := 31) (k0 := 1) (i := 1) rfl 1 rfl (by decide +kernel) ?_
      refine s_iload_n (pc := 32) (k0 := 2) (i := 2) rfl 2 rfl (by decide +kernel) ?_
      refine s_cVj (pc := 33) [.int a2] (tX4_runOf a1 a2 g2) c5 cw_X1_64 rfl ⟨⟨Nat.le_of_ble_eq_true rfl, Nat.le_of_ble_eq_true rfl⟩, Nat.le_of_ble_eq_true rfl⟩ rfl (by decide +kernel) (fun w12 g10 e11 => ?_)
      refine s_aload_n (pc := 36) (k0 := 1) (i := 1) rfl 1 rfl (by decide +kernel) ?_
      refine s_iload_n (pc := 37) (k0 := 2) (i := 2) rfl 2 rfl (by decide +kernel) ?_
      have c13 := kp e11 c5 (by decide)
      refine s_cVj (pc := 38) [.int a2] (tX4_riseOf a1 a2 g10) c13 cw_X1_68 rfl ⟨⟨Nat.le_of_ble_eq_true rfl, Nat.le_of_ble_eq_true rfl⟩, Nat.le_of_ble_eq_true rfl⟩ rfl (by decide +kernel) (fun w16 g14 e15 => ?_)
      refine S_gd (fun c17 => ?_)
      refine s_cVv (pc := 41) [.long (hJ g2 (hR g2 a1 1) a2.toNatClampNeg), .long (hJ g2 (hR g2 a1 3) a2.toNatClampNeg), .long w12, .long w16] (tX1_addBetween a0 (hJ g2 (hR g2 a1 1) a2.toNatClampNeg) (hJ g2 (hR g2 a1 3) a2.toNatClampNeg) w12 w16 g14) c17 cw_X1_71 rfl ⟨⟨Nat.le_of_ble_eq_true rfl, Nat.le_of_ble_eq_true rfl⟩, Nat.le_of_ble_eq_true rfl⟩ rfl (by decide +kernel) (fun _ g18 e19 => ?_)
      exact pX1_addShape_b44 hr2 a0 a1 a2 g18
theorem pX1_addShape_l2 {h0 : xH}   : ∀ (k : Nat)  (a0 : Nat) (a1 : Nat) (a2 : Int32) (h : xH), S emV kX1_addShape h0 2 [(0, .ref a0), (1, .ref a1), (2, .int a2)] [] h (fX1_addShape_l2  k  a0 a1 a2 h) := by
  intro k
  induction k with
  | zero => intros; exact S_none
  | succ k ih => intro  a0 a1 a2 h; exact pX1_addShape_b2 ih  a0 a1 a2 h
theorem pX1_addShape_e    (a0 : Nat) (a1 : Nat) (h : xH) : S emV kX1_addShape h 0 [(0, .ref a0), (1, .ref a1)] [] h (fX1_addShape  a0 a1 h) := by
  unfold fX1_addShape
  refine s_iconst (pc := 0) (n := 0) (v := (0 : Int32)) (by decide) (by decide +kernel) ?_
  refine s_nmI (fun v1 => ?_)
  refine s_istore_n (pc := 1) (L' := [(2, .int v1), (0, .ref a0), (1, .ref a1)]) (k0 := 2) (i := 2) rfl (by decide) rfl (by decide +kernel) ?_
  refine S_sub [1, 2, 0] rfl ?_
  exact pX1_addShape_l2 FU a0 a1 v1 h
theorem tX1_addShape (a0 : Nat) (a1 : Nat) (h : xH) : Ct yX1_addShape kX1_addShape emV [.ref a0, .ref a1] h (fX1_addShape a0 a1 h) := Ct_of (by decide +kernel) rfl rfl rfl (Nat.le_of_ble_eq_true rfl) rfl (pX1_addShape_e a0 a1 h)
def fX1_addSum   (a0 : Nat) (a1 : Nat) (a2 : Int32) (a3 : Nat) (a4 : Int32) (h : xH) : Option (Unit × xH) :=
  if kc h a1 = 1 then
  if kc h (hR h a1 1) = 8 then
  if ix a2 (kl h (hR h a1 1)) then
  if kc h a3 = 1 then
  if kc h (hR h a3 1) = 8 then
  if ix a4 (kl h (hR h a3 1)) then
  bd (fJ9_max_7cf53 (hI h (hR h a1 1) a2.toNatClampNeg) (hI h (hR h a3 1) a4.toNatClampNeg) h) (fun w9 g7 =>
  if kc g7 (hR g7 a1 2) = 8 then
  if ix a2 (kl g7 (hR g7 a1 2)) then
  if kc g7 (hR g7 a3 2) = 8 then
  if ix a4 (kl g7 (hR g7 a3 2)) then
  bd (fJ9_min_7cf53 (hI g7 (hR g7 a1 2) a2.toNatClampNeg) (hI g7 (hR g7 a3 2) a4.toNatClampNeg) g7) (fun w18 g16 =>
  if kc g16 (hR g16 a1 3) = 9 then
  if ix a2 (kl g16 (hR g16 a1 3)) then
  if kc g16 (hR g16 a3 5) = 9 then
  if ix a4 (kl g16 (hR g16 a3 5)) then
  if kc g16 (hR g16 a3 3) = 9 then
  if ix a4 (kl g16 (hR g16 a3 3)) then
  if kc g16 (hR g16 a1 5) = 9 then
  if ix a2 (kl g16 (hR g16 a1 5)) then
  lt (((hJ g16 (hR g16 a1 3) a2.toNatClampNeg) * (hJ g16 (hR g16 a3 5) a4.toNatClampNeg)) + ((hJ g16 (hR g16 a3 3) a4.toNatClampNeg) * (hJ g16 (hR g16 a1 5) a2.toNatClampNeg))) (fun v29 =>
  if kc g16 (hR g16 a1 4) = 9 then
  if ix a2 (kl g16 (hR g16 a1 4)) then
  if kc g16 (hR g16 a3 4) = 9 then
  if ix a4 (kl g16 (hR g16 a3 4)) then
  lt (((hJ g16 (hR g16 a1 4) a2.toNatClampNeg) * (hJ g16 (hR g16 a3 5) a4.toNatClampNeg)) + ((hJ g16 (hR g16 a3 4) a4.toNatClampNeg) * (hJ g16 (hR g16 a1 5) a2.toNatClampNeg))) (fun v34 =>
  if kc g16 a0 = 1 then
  bd (fX1_addLine a0 w9 w18 v29 v34 ((hJ g16 (hR g16 a1 5) a2.toNatClampNeg) * (hJ g16 (hR g16 a3 5) a4.toNatClampNeg)) g16) (fun _ g36 =>
  some ((), g36))
  else none)
  else none
  else none
  else none
  else none)
  else none
  else none
  else none
  else none
  else none
  else none
  else none
  else none)
  else none
  else none
  else none
  else none)
  else none
  else none
  else none
  else none
  else none
  else none
theorem pX1_addSum_e    (a0 : Nat) (a1 : Nat) (a2 : Int32) (a3 : Nat) (a4 : Int32) (h : xH) : S emV kX1_addSum h 0 [(0, .ref a0), (1, .ref a1), (2, .int a2), (3, .ref a3), (4, .int a4)] [] h (fX1_addSum  a0 a1 a2 a3 a4 h) := by
  unfold fX1_addSum
  refine s_aload_n (pc := 0) (k0 := 1) (i := 1) rfl 1 rfl (by decide +kernel) ?_
  refine S_gd (fun c1 => ?_)
  refine s_getR (pc := 1) (k := 1) c1 ft_X1_25 rfl (by decide +kernel) ?_
  refine s_iload_n (pc := 4) (k0 := 2) (i := 2) rfl 2 rfl (by decide +kernel) ?_
  refine S_gd (fun c2 => ?_)
  refine S_gd (fun c3 => ?_)
  refine s_iald (pc := 5) c2 c3 (by decide +kernel) ?_
  refine s_aload_n (pc := 6) (k0 := 3) (i := 3) rfl 3 rfl (by decide +kernel) ?_
  refine S_gd (fun c4 => ?_)
  refine s_getR (pc := 7) (k := 1) c4 ft_X1_25 rfl (by decide +kernel) ?_
  refine s_iload (pc := 10) (i := 4) 4 rfl (by decide +kernel) ?_
  refine S_gd (fun c5 => ?_)
  refine S_gd (fun c6 => ?_)
  refine s_iald (pc := 12) c5 c6 (by decide +kernel) ?_
  refine s_cSi (pc := 13) [.int (hI h (hR h a1 1) a2.toNatClampNeg), .int (hI h (hR h a3 1) a4.toNatClampNeg)] (tJ9_max_7cf53 (hI h (hR h a1 1) a2.toNatClampNeg) (hI h (hR h a3 1) a4.toNatClampNeg) h) cw_X1_75 rfl ⟨⟨Nat.le_of_ble_eq_true rfl, Nat.le_of_ble_eq_true rfl⟩, Nat.le_of_ble_eq_true rfl⟩ rfl (by decide +kernel) (fun w9 g7 e8 => ?_)
  refine s_istore (pc := 16) (L' := [(5, .int w9), (0, .ref a0), (1, .ref a1), (2, .int a2), (3, .ref a3), (4, .int a4)]) (i := 5) (by decide) rfl (by decide +kernel) ?_
  refine s_aload_n (pc := 18) (k0 := 1) (i := 1) rfl 2 rfl (by decide +kernel) ?_
  have c10 := kp e8 c1 (by decide)
  refine s_getR (pc := 19) (k := 2) c10 ft_X1_29 rfl (by decide +kernel) ?_
  refine s_iload_n (pc := 22) (k0 := 2) (i := 2) rfl 3 rfl (by decide +kernel) ?_
  refine S_gd (fun c11 => ?_)
  refine S_gd (fun c12 => ?_)
  refine s_iald (pc := 23) c11 c12 (by decide +kernel) ?_
  refine s_aload_n (pc := 24) (k0 := 3) (i := 3) rfl 4 rfl (by decide +kernel) ?_
  have c13 := kp e8 c4 (by decide)
  refine s_getR (pc := 25) (k := 2) c13 ft_X1_29 rfl (by decide +kernel) ?_
  refine s_iload (pc := 28) (i := 4) 5 rfl (by decide +kernel) ?_
  refine S_gd (fun c14 => ?_)
  refine S_gd (fun c15 => ?_)
  refine s_iald (pc := 30) c14 c15 (by decide +kernel) ?_
  refine s_cSi (pc := 31) [.int (hI g7 (hR g7 a1 2) a2.toNatClampNeg), .int (hI g7 (hR g7 a3 2) a4.toNatClampNeg)] (tJ9_min_7cf53 (hI g7 (hR g7 a1 2) a2.toNatClampNeg) (hI g7 (hR g7 a3 2) a4.toNatClampNeg) g7) cw_X1_81 rfl ⟨⟨Nat.le_of_ble_eq_true rfl, Nat.le_of_ble_eq_true rfl⟩, Nat.le_of_ble_eq_true rfl⟩ rfl (by decide +kernel) (fun w18 g16 e17 => ?_)
  refine s_istore (pc := 34) (L' := [(6, .int w18), (5, .int w9), (0, .ref a0), (1, .ref a1), (2, .int a2), (3, .ref a3), (4, .int a4)]) (i := 6) (by decide) rfl (by decide +kernel) ?_
  refine s_aload_n (pc := 36) (k0 := 1) (i := 1) rfl 3 rfl (by decide +kernel) ?_
  have c19 := kp e17 c10 (by decide)
  refine s_getR (pc := 37) (k := 3) c19 ft_X1_32 rfl (by decide +kernel) ?_
  refine s_iload_n (pc := 40) (k0 := 2) (i := 2) rfl 4 rfl (by decide +kernel) ?_
  refine S_gd (fun c20 => ?_)
  refine S_gd (fun c21 => ?_)
  refine s_lald (pc := 41) c20 c21 (by decide +kernel) ?_
  refine s_aload_n (pc := 42) (k0 := 3) (i := 3) rfl 5 rfl (by decide +kernel) ?_
  have c22 := kp e17 c13 (by decide)
  refine s_getR (pc := 43) (k := 5) c22 ft_X1_39 rfl (by decide +kernel) ?_
  refine s_iload (pc := 46) (i := 4) 6 rfl (by decide +kernel) ?_
  refine S_gd (fun c23 => ?_)
  refine S_gd (fun c24 => ?_)
  refine s_lald (pc := 48) c23 c24 (by decide +kernel) ?_
  refine s_lmul (pc := 49) (by decide +kernel) ?_
  refine s_aload_n (pc := 50) (k0 := 3) (i := 3) rfl 5 rfl (by decide +kernel) ?_
  refine s_getR (pc := 51) (k := 3) c22 ft_X1_32 rfl (by decide +kernel) ?_
  refine s_iload (pc := 54) (i := 4) 6 rfl (by decide +kernel) ?_
  refine S_gd (fun c25 => ?_)
  refine S_gd (fun c26 => ?_)
  refine s_lald (pc := 56) c25 c26 (by decide +kernel) ?_
  refine s_aload_n (pc := 57) (k0 := 1) (i := 1) rfl 3 rfl (by decide +kernel) ?_
  refine s_getR (pc := 58) (k := 5) c19 ft_X1_39 rfl (by decide +kernel) ?_
  refine s_iload_n (pc := 61) (k0 := 2) (i := 2) rfl 4 rfl (by decide +kernel) ?_
  refine S_gd (fun c27 => ?_)
  refine S_gd (fun c28 => ?_)
  refine s_lald (pc := 62) c27 c28 (by decide +kernel) ?_
  refine s_lmul (pc := 63) (by decide +kernel) ?_
  refine s_ladd (pc := 64) (by decide +kernel) ?_
  refine s_nmJ (fun v29 => ?_)
  refine s_lstore (pc := 65) (L' := [(7, .long v29), (6, .int w18), (5, .int w9), (0, .ref a0), (1, .ref a1), (2, .int a2), (3, .ref a3), (4, .int a4)]) (i := 7) (by decide) rfl (by decide +kernel) ?_
  refine s_aload_n (pc := 67) (k0 := 1) (i := 1) rfl 4 rfl (by decide +kernel) ?_
  refine s_getR (pc := 68) (k := 4) c19 ft_X1_36 rfl (by decide +kernel) ?_
  refine s_iload_n (pc := 71) (k0 := 2) (i := 2) rfl 5 rfl (by decide +kernel) ?_
  refine S_gd (fun c30 => ?_)
  refine S_gd (fun c31 => ?_)
  refine s_lald (pc := 72) c30 c31 (by decide +kernel) ?_
  refine s_aload_n (pc := 73) (k0 := 3) (i := 3) rfl 6 rfl (by decide +kernel) ?_
  refine s_getR (pc := 74) (k := 5) c22 ft_X1_39 rfl (by decide +kernel) ?_
  refine s_iload (pc := 77) (i := 4) 7 rfl (by decide +kernel) ?_
  refine s_lald (pc := 79) c23 c24 (by decide +kernel) ?_
  refine s_lmul (pc := 80) (by decide +kernel) ?_
  refine s_aload_n (pc := 81) (k0 := 3) (i := 3) rfl 6 rfl (by decide +kernel) ?_
  refine s_getR (pc := 82) (k := 4) c22 ft_X1_36 rfl (by decide +kernel) ?_
  refine s_iload (pc := 85) (i := 4) 7 rfl (by decide +kernel) ?_
  refine S_gd (fun c32 => ?_)
  refine S_gd (fun c33 => ?_)
  refine s_lald (pc := 87) c32 c33 (by decide +kernel) ?_
  refine s_aload_n (pc := 88) (k0 := 1) (i := 1) rfl 4 rfl (by decide +kernel) ?_
  refine s_getR (pc := 89) (k := 5) c19 ft_X1_39 rfl (by decide +kernel) ?_
  refine s_iload_n (pc := 92) (k0 := 2) (i := 2) rfl 5 rfl (by decide +kernel) ?_
  refine s_lald (pc := 93) c27 c28 (by decide +kernel) ?_
  refine s_lmul (pc := 94) (by decide +kernel) ?_
  refine s_ladd (pc := 95) (by decide +kernel) ?_
  refine s_nmJ (fun v34 => ?_)
  refine s_lstore (pc := 96) (L' := [(9, .long v34), (7, .long v29), (6, .int w18), (5, .int w9), (0, .ref a0), (1, .ref a1), (2, .int a2), (3, .ref a3), (4, .int a4)]) (i := 9) (by decide) rfl (by decide +kernel) ?_
  refine s_aload_n (pc := 98) (k0 := 0) (i := 0) rfl 4 rfl (by decide +kernel) ?_
  refine s_iload (pc := 99) (i := 5) 3 rfl (by decide +kernel) ?_
  refine s_iload (pc := 101) (i := 6) 2 rfl (by decide +kernel) ?_
  refine s_lload (pc := 103) (i := 7) 1 rfl (by decide +kernel) ?_
  refine s_lload (pc := 105) (i := 9) 0 rfl (by decide +kernel) ?_
  refine s_aload_n (pc := 107) (k0 := 1) (i := 1) rfl 5 rfl (by decide +kernel) ?_
  refine s_getR (pc := 108) (k := 5) c19 ft_X1_39 rfl (by decide +kernel) ?_
  refine s_iload_n (pc := 111) (k0 := 2) (i := 2) rfl 6 rfl (by decide +kernel) ?_
  refine s_lald (pc := 112) c27 c28 (by decide +kernel) ?_
  refine s_aload_n (pc := 113) (k0 := 3) (i := 3) rfl 7 rfl (by decide +kernel) ?_
  refine s_getR (pc := 114) (k := 5) c22 ft_X1_39 rfl (by decide +kernel) ?_
  refine s_iload (pc := 117) (i := 4) 8 rfl (by decide +kernel) ?_
  refine s_lald (pc := 119) c23 c24 (by decide +kernel) ?_
  refine s_lmul (pc := 120) (by decide +kernel) ?_
  refine S_gd (fun c35 => ?_)
  refine s_cVv (pc := 121) [.int w9, .int w18, .long v29, .long v34, .long ((hJ g16 (hR g16 a1 5) a2.toNatClampNeg) * (hJ g16 (hR g16 a3 5) a4.toNatClampNeg))] (tX1_addLine a0 w9 w18 v29 v34 ((hJ g16 (hR g16 a1 5) a2.toNatClampNeg) * (hJ g16 (hR g16 a3 5) a4.toNatClampNeg)) g16) c35 cw_X1_45 rfl ⟨⟨Nat.le_of_ble_eq_true rfl, Nat.le_of_ble_eq_true rfl⟩, Nat.le_of_ble_eq_true rfl⟩ rfl (by decide +kernel) (fun _ g36 e37 => ?_)
  exact s_vret (pc := 124) rfl (by decide +kernel)
theorem tX1_addSum (a0 : Nat) (a1 : Nat) (a2 : Int32) (a3 : Nat) (a4 : Int32) (h : xH) : Ct yX1_addSum kX1_addSum emV [.ref a0, .ref a1, .int a2, .ref a3, .int a4] h (fX1_addSum a0 a1 a2 a3 a4 h) := Ct_of (by decide +kernel) rfl rfl rfl (Nat.le_of_ble_eq_true rfl) rfl (pX1_addSum_e a0 a1 a2 a3 a4 h)
def fX1_firstY   (a0 : Nat) (a1 : Int32) (h : xH) : Option (Int64 × xH) :=
  if kc h a0 = 1 then
  if kc h (hR h a0 5) = 9 then
  if ix a1 (kl h (hR h a0 5)) then
  lt (hJ h (hR h a0 5) a1.toNatClampNeg) (fun v4 =>
  if (lg_cmp v4 (0 : Int64)) = 0 then (
  some ((0 : Int64), h))
  else (
  if kc h (hR h a0 3) = 9 then
  if ix a1 (kl h (hR h a0 3)) then
  if kc h (hR h a0 4) = 9 then
  if ix a1 (kl h (hR h a0 4)) then
  if kc h (hR h a0 1) = 8 then
  if ix a1 (kl h (hR h a0 1)) then
  if ¬ v4 = 0 then
  some ((((hJ h (hR h a0 3) a1.toNatClampNeg) + ((hJ h (hR h a0 4) a1.toNatClampNeg) * ((hI h (hR h a0 1) a1.toNatClampNeg).toInt64))) / v4), h)
  else none
  else none
  else none
  else none
  else none
  else none
  else none))
  else none
  else none
  else none
theorem pX1_firstY_e    (a0 : Nat) (a1 : Int32) (h : xH) : S emJ kX1_firstY h 0 [(0, .ref a0), (1, .int a1)] [] h (fX1_firstY  a0 a1 h) := by
  unfold fX1_firstY
  refine s_aload_n (pc := 0) (k0 := 0) (i := 0) rfl 0 rfl (by decide +kernel) ?_
  refine S_gd (fun c1 => ?_)
  refine s_getR (pc := 1) (k := 5) c1 ft_X1_39 rfl (by decide +kernel) ?_
  refine s_iload_n (pc := 4) (k0 := 1) (i := 1) rfl 1 rfl (by decide +kernel) ?_
  refine S_gd (fun c2 => ?_)
  refine S_gd (fun c3 => ?_)
  refine s_lald (pc := 5) c2 c3 (by decide +kernel) ?_
  refine s_nmJ (fun v4 => ?_)
  refine s_lstore_n (pc := 6) (L' := [(2, .long v4), (0, .ref a0), (1, .int a1)]) (k0 := 2) (i := 2) rfl (by decide) rfl (by decide +kernel) ?_
  refine s_lload_n (pc := 7) (k0 := 2) (i := 2) rfl 0 rfl (by decide +kernel) ?_
  refine s_lconst (pc := 8) (n := 0) (v := (0 : Int64)) (by decide) (by decide +kernel) ?_
  refine s_lcmp (pc := 9) (by decide +kernel) ?_
  refine s_if_ne (pc := 10) (off := 7) 17 (by decide +kernel) (by decide) (fun _ => ?_) (fun _ => ?_)
  · refine s_lconst (pc := 13) (n := 0) (v := (0 : Int64)) (by decide) (by decide +kernel) ?_
    refine s_goto (pc := 14) (off := 26) 40 (by decide +kernel) (by decide) ?_
    exact s_lret (pc := 40) rfl (by decide +kernel)
  · refine s_aload_n (pc := 17) (k0 := 0) (i := 0) rfl 1 rfl (by decide +kernel) ?_
    refine s_getR (pc := 18) (k := 3) c1 ft_X1_32 rfl (by decide +kernel) ?_
    refine s_iload_n (pc := 21) (k0 := 1) (i := 1) rfl 2 rfl (by decide +kernel) ?_
    refine S_gd (fun c5 => ?_)
    refine S_gd (fun c6 => ?_)
    refine s_lald (pc := 22) c5 c6 (by decide +kernel) ?_
    refine s_aload_n (pc := 23) (k0 := 0) (i := 0) rfl 1 rfl (by decide +kernel) ?_
    refine s_getR (pc := 24) (k := 4) c1 ft_X1_36 rfl (by decide +kernel) ?_
    refine s_iload_n (pc := 27) (k0 := 1) (i := 1) rfl 2 rfl (by decide +kernel) ?_
    refine S_gd (fun c7 => ?_)
    refine S_gd (fun c8 => ?_)
    refine s_lald (pc := 28) c7 c8 (by decide +kernel) ?_
    refine s_aload_n (pc := 29) (k0 := 0) (i := 0) rfl 1 rfl (by decide +kernel) ?_
    refine s_getR (pc := 30) (k := 1) c1 ft_X1_25 rfl (by decide +kernel) ?_
    refine s_iload_n (pc := 33) (k0 := 1) (i := 1) rfl 2 rfl (by decide +kernel) ?_
    refine S_gd (fun c9 => ?_)
    refine S_gd (fun c10 => ?_)
    refine s_iald (pc := 34) c9 c10 (by decide +kernel) ?_
    refine s_i2l (pc := 35) (by decide +kernel) ?_
    refine s_lmul (pc := 36) (by decide +kernel) ?_
    refine s_ladd (pc := 37) (by decide +kernel) ?_
    refine s_lload_n (pc := 38) (k0 := 2) (i := 2) rfl 0 rfl (by decide +kernel) ?_
    refine s_ldiv (pc := 39) (by decide +kernel) ?_
    exact s_lret (pc := 40) rfl (by decide +kernel)
theorem tX1_firstY (a0 : Nat) (a1 : Int32) (h : xH) : Ct yX1_firstY kX1_firstY emJ [.ref a0, .int a1] h (fX1_firstY a0 a1 h) := Ct_of (by decide +kernel) rfl rfl rfl (Nat.le_of_ble_eq_true rfl) rfl (pX1_firstY_e a0 a1 h)
def fX1_addJoined   (a0 : Nat) (a1 : Nat) (a2 : Int32) (a3 : Nat) (a4 : Int32) (h : xH) : Option (Unit × xH) :=
  if kc h a1 = 1 then
  if kc h (hR h a1 1) = 8 then
  if ix a2 (kl h (hR h a1 1)) then
  if kc h a3 = 1 then
  if kc h (hR h a3 1) = 8 then
  if ix a4 (kl h (hR h a3 1)) then
  lt (((hI h (hR h a1 1) a2.toNatClampNeg).toInt64) + ((hI h (hR h a3 1) a4.toNatClampNeg).toInt64)) (fun v7 =>
  bd (fX1_firstY a1 a2 h) (fun w10 g8 =>
  bd (fX1_firstY a3 a4 g8) (fun w14 g12 =>
  lt (w10 + w14) (fun v15 =>
  if kc g12 (hR g12 a1 2) = 8 then
  if ix a2 (kl g12 (hR g12 a1 2)) then
  if kc g12 (hR g12 a1 1) = 8 then
  if ix a2 (kl g12 (hR g12 a1 1)) then
  lt (((hI g12 (hR g12 a1 2) a2.toNatClampNeg) - (hI g12 (hR g12 a1 1) a2.toNatClampNeg)).toInt64) (fun v21 =>
  if kc g12 (hR g12 a3 2) = 8 then
  if ix a4 (kl g12 (hR g12 a3 2)) then
  if kc g12 (hR g12 a3 1) = 8 then
  if ix a4 (kl g12 (hR g12 a3 1)) then
  lt (((hI g12 (hR g12 a3 2) a4.toNatClampNeg) - (hI g12 (hR g12 a3 1) a4.toNatClampNeg)).toInt64) (fun v27 =>
  if (lg_cmp v21 (0 : Int64)) = 0 then (
  if kc g12 (hR g12 a3 4) = 9 then
  if ix a4 (kl g12 (hR g12 a3 4)) then
  if kc g12 a0 = 1 then
  bd (fX1_addBetween a0 v7 v15 v27 (hJ g12 (hR g12 a3 4) a4.toNatClampNeg) g12) (fun _ g64 =>
  some ((), g64))
  else none
  else none
  else none)
  else (
  if (lg_cmp v27 (0 : Int64)) = 0 then (
  if kc g12 (hR g12 a1 4) = 9 then
  if ix a2 (kl g12 (hR g12 a1 4)) then
  if kc g12 a0 = 1 then
  bd (fX1_addBetween a0 v7 v15 v21 (hJ g12 (hR g12 a1 4) a2.toNatClampNeg) g12) (fun _ g59 =>
  some ((), g59))
  else none
  else none
  else none)
  else (
  if kc g12 (hR g12 a1 4) = 9 then
  if ix a2 (kl g12 (hR g12 a1 4)) then
  if kc g12 (hR g12 a3 4) = 9 then
  if ix a4 (kl g12 (hR g12 a3 4)) then
  if 0 < (lg_cmp ((hJ g12 (hR g12 a1 4) a2.toNatClampNeg) * v27) ((hJ g12 (hR g12 a3 4) a4.toNatClampNeg) * v21)) then (
  if kc g12 a0 = 1 then
  bd (fX1_addBetween a0 v7 v15 v27 (hJ g12 (hR g12 a3 4) a4.toNatClampNeg) g12) (fun _ g33 =>
  if kc g33 (hR g33 a3 4) = 9 then
  if ix a4 (kl g33 (hR g33 a3 4)) then
  if kc g33 (hR g33 a1 4) = 9 then
  if ix a2 (kl g33 (hR g33 a1 4)) then
  bd (fX1_addBetween a0 (v7 + v27) (v15 + (hJ g33 (hR g33 a3 4) a4.toNatClampNeg)) v21 (hJ g33 (hR g33 a1 4) a2.toNatClampNeg) g33) (fun _ g42 =>
  some ((), g42))
  else none
  else none
  else none
  else none)
  else none)
  else (
  if kc g12 a0 = 1 then
  bd (fX1_addBetween a0 v7 v15 v21 (hJ g12 (hR g12 a1 4) a2.toNatClampNeg) g12) (fun _ g45 =>
  if kc g45 (hR g45 a1 4) = 9 then
  if ix a2 (kl g45 (hR g45 a1 4)) then
  if kc g45 (hR g45 a3 4) = 9 then
  if ix a4 (kl g45 (hR g45 a3 4)) then
  bd (fX1_addBetween a0 (v7 + v21) (v15 + (hJ g45 (hR g45 a1 4) a2.toNatClampNeg)) v27 (hJ g45 (hR g45 a3 4) a4.toNatClampNeg) g45) (fun _ g54 =>
  some ((), g54))
  else none
  else none
  else none
  else none)
  else none)
  else none
  else none
  else none
  else none)))
  else none
  else none
  else none
  else none)
  else none
  else none
  else none
  else none))))
  else none
  else none
  else none
  else none
  else none
  else none
theorem pX1_addJoined_e    (a0 : Nat) (a1 : Nat) (a2 : Int32) (a3 : Nat) (a4 : Int32) (h : xH) : S emV kX1_addJoined h 0 [(0, .ref a0), (1, .ref a1), (2, .int a2), (3, .ref a3), (4, .int a4)] [] h (fX1_addJoined  a0 a1 a2 a3 a4 h) := by
  unfold fX1_addJoined
  refine s_aload_n (pc := 0) (k0 := 1) (i := 1) rfl 1 rfl (by decide +kernel) ?_
  refine S_gd (fun c1 => ?_)
  refine s_getR (pc := 1) (k := 1) c1 ft_X1_25 rfl (by decide +kernel) ?_
  refine s_iload_n (pc := 4) (k0 := 2) (i := 2) rfl 2 rfl (by decide +kernel) ?_
  refine S_gd (fun c2 => ?_)
  refine S_gd (fun c3 => ?_)
  refine s_iald (pc := 5) c2 c3 (by decide +kernel) ?_
  refine s_i2l (pc := 6) (by decide +kernel) ?_
  refine s_aload_n (pc := 7) (k0 := 3) (i := 3) rfl 3 rfl (by decide +kernel) ?_
  refine S_gd (fun c4 => ?_)
  refine s_getR (pc := 8) (k := 1) c4 ft_X1_25 rfl (by decide +kernel) ?_
  refine s_iload (pc := 11) (i := 4) 4 rfl (by decide +kernel) ?_
  refine S_gd (fun c5 => ?_)
  refine S_gd (fun c6 => ?_)
  refine s_iald (pc := 13) c5 c6 (by decide +kernel) ?_
  refine s_i2l (pc := 14) (by decide +kernel) ?_
  refine s_ladd (pc := 15) (by decide +kernel) ?_
  refine s_nmJ (fun v7 => ?_)
  refine s_lstore (pc := 16) (L' := [(5, .long v7), (0, .ref a0), (1, .ref a1), (2, .int a2), (3, .ref a3), (4, .int a4)]) (i := 5) (by decide) rfl (by decide +kernel) ?_
  refine s_aload_n (pc := 18) (k0 := 1) (i := 1) rfl 2 rfl (by decide +kernel) ?_
  refine s_iload_n (pc := 19) (k0 := 2) (i := 2) rfl 3 rfl (by decide +kernel) ?_
  refine s_cVj (pc := 20) [.int a2] (tX1_firstY a1 a2 h) c1 cw_X1_84 rfl ⟨⟨Nat.le_of_ble_eq_true rfl, Nat.le_of_ble_eq_true rfl⟩, Nat.le_of_ble_eq_true rfl⟩ rfl (by decide +kernel) (fun w10 g8 e9 => ?_)
  refine s_aload_n (pc := 23) (k0 := 3) (i := 3) rfl 4 rfl (by decide +kernel) ?_
  refine s_iload (pc := 24) (i := 4) 5 rfl (by decide +kernel) ?_
  have c11 := kp e9 c4 (by decide)
  refine s_cVj (pc := 26) [.int a4] (tX1_firstY a3 a4 g8) c11 cw_X1_84 rfl ⟨⟨Nat.le_of_ble_eq_true rfl, Nat.le_of_ble_eq_true rfl⟩, Nat.le_of_ble_eq_true rfl⟩ rfl (by decide +kernel) (fun w14 g12 e13 => ?_)
  refine s_ladd (pc := 29) (by decide +kernel) ?_
  refine s_nmJ (fun v15 => ?_)
  refine s_lstore (pc := 30) (L' := [(7, .long v15), (5, .long v7), (0, .ref a0), (1, .ref a1), (2, .int a2), (3, .ref a3), (4, .int a4)]) (i := 7) (by decide) rfl (by decide +kernel) ?_
  refine s_aload_n (pc := 32) (k0 := 1) (i := 1) rfl 3 rfl (by decide +kernel) ?_
  have c16 := kp (Le.tr e9 e13) c1 (by decide)
  refine s_getR (pc := 33) (k := 2) c16 ft_X1_29 rfl (by decide +kernel) ?_
  refine s_iload_n (pc := 36) (k0 := 2) (i := 2) rfl 4 rfl (by decide +kernel) ?_
  refine S_gd (fun c17 => ?_)
  refine S_gd (fun c18 => ?_)
  refine s_iald (pc := 37) c17 c18 (by decide +kernel) ?_
  refine s_aload_n (pc := 38) (k0 := 1) (i := 1) rfl 3 rfl (by decide +kernel) ?_
  refine s_getR (pc := 39) (k := 1) c16 ft_X1_25 rfl (by decide +kernel) ?_
  refine s_iload_n (pc := 42) (k0 := 2) (i := 2) rfl 4 rfl (by decide +kernel) ?_
  refine S_gd (fun c19 => ?_)
  refine S_gd (fun c20 => ?_)
  refine s_iald (pc := 43) c19 c20 (by decide +kernel) ?_
  refine s_isub (pc := 44) (by decide +kernel) ?_
  refine s_i2l (pc := 45) (by decide +kernel) ?_
  refine s_nmJ (fun v21 => ?_)
  refine s_lstore (pc := 46) (L' := [(9, .long v21), (7, .long v15), (5, .long v7), (0, .ref a0), (1, .ref a1), (2, .int a2), (3, .ref a3), (4, .int a4)]) (i := 9) (by decide) rfl (by decide +kernel) ?_
  refine s_aload_n (pc := 48) (k0 := 3) (i := 3) rfl 6 rfl (by decide +kernel) ?_
  have c22 := kp e13 c11 (by decide)
  refine s_getR (pc := 49) (k := 2) c22 ft_X1_29 rfl (by decide +kernel) ?_
  refine s_iload (pc := 52) (i := 4) 7 rfl (by decide +kernel) ?_
  refine S_gd (fun c23 => ?_)
  refine S_gd (fun c24 => ?_)
  refine s_iald (pc := 54) c23 c24 (by decide +kernel) ?_
  refine s_aload_n (pc := 55) (k0 := 3) (i := 3) rfl 6 rfl (by decide +kernel) ?_
  refine s_getR (pc := 56) (k := 1) c22 ft_X1_25 rfl (by decide +kernel) ?_
  refine s_iload (pc := 59) (i := 4) 7 rfl (by decide +kernel) ?_
  refine S_gd (fun c25 => ?_)
  refine S_gd (fun c26 => ?_)
  refine s_iald (pc := 61) c25 c26 (by decide +kernel) ?_
  refine s_isub (pc := 62) (by decide +kernel) ?_
  refine s_i2l (pc := 63) (by decide +kernel) ?_
  refine s_nmJ (fun v27 => ?_)
  refine s_lstore (pc := 64) (L' := [(11, .long v27), (9, .long v21), (7, .long v15), (5, .long v7), (0, .ref a0), (1, .ref a1), (2, .int a2), (3, .ref a3), (4, .int a4)]) (i := 11) (by decide) rfl (by decide +kernel) ?_
  refine s_lload (pc := 66) (i := 9) 1 rfl (by decide +kernel) ?_
  refine s_lconst (pc := 68) (n := 0) (v := (0 : Int64)) (by decide) (by decide +kernel) ?_
  refine s_lcmp (pc := 69) (by decide +kernel) ?_
  refine s_if_ne (pc := 70) (off := 23) 93 (by decide +kernel) (by decide) (fun _ => ?_) (fun _ => ?_)
  · refine s_aload_n (pc := 73) (k0 := 0) (i := 0) rfl 4 rfl (by decide +kernel) ?_
    refine s_lload (pc := 74) (i := 5) 3 rfl (by decide +kernel) ?_
    refine s_lload (pc := 76) (i := 7) 2 rfl (by decide +kernel) ?_
    refine s_lload (pc := 78) (i := 11) 0 rfl (by decide +kernel) ?_
    refine s_aload_n (pc := 80) (k0 := 3) (i := 3) rfl 7 rfl (by decide +kernel) ?_
    refine s_getR (pc := 81) (k := 4) c22 ft_X1_36 rfl (by decide +kernel) ?_
    refine s_iload (pc := 84) (i := 4) 8 rfl (by decide +kernel) ?_
    refine S_gd (fun c61 => ?_)
    refine S_gd (fun c62 => ?_)
    refine s_lald (pc := 86) c61 c62 (by decide +kernel) ?_
    refine S_gd (fun c63 => ?_)
    refine s_cVv (pc := 87) [.long v7, .long v15, .long v27, .long (hJ g12 (hR g12 a3 4) a4.toNatClampNeg)] (tX1_addBetween a0 v7 v15 v27 (hJ g12 (hR g12 a3 4) a4.toNatClampNeg) g12) c63 cw_X1_71 rfl ⟨⟨Nat.le_of_ble_eq_true rfl, Nat.le_of_ble_eq_true rfl⟩, Nat.le_of_ble_eq_true rfl⟩ rfl (by decide +kernel) (fun _ g64 e65 => ?_)
    refine s_goto (pc := 90) (off := 142) 232 (by decide +kernel) (by decide) ?_
    exact s_vret (pc := 232) rfl (by decide +kernel)
  · refine s_lload (pc := 93) (i := 11) 0 rfl (by decide +kernel) ?_
    refine s_lconst (pc := 95) (n := 0) (v := (0 : Int64)) (by decide) (by decide +kernel) ?_
    refine s_lcmp (pc := 96) (by decide +kernel) ?_
    refine s_if_ne (pc := 97) (off := 22) 119 (by decide +kernel) (by decide) (fun _ => ?_) (fun _ => ?_)
    · refine s_aload_n (pc := 100) (k0 := 0) (i := 0) rfl 4 rfl (by decide +kernel) ?_
      refine s_lload (pc := 101) (i := 5) 3 rfl (by decide +kernel) ?_
      refine s_lload (pc := 103) (i := 7) 2 rfl (by decide +kernel) ?_
      refine s_lload (pc := 105) (i := 9) 1 rfl (by decide +kernel) ?_
      refine s_aload_n (pc := 107) (k0 := 1) (i := 1) rfl 5 rfl (by decide +kernel) ?_
      refine s_getR (pc := 108) (k := 4) c16 ft_X1_36 rfl (by decide +kernel) ?_
      refine s_iload_n (pc := 111) (k0 := 2) (i := 2) rfl 6 rfl (by decide +kernel) ?_
      refine S_gd (fun c56 => ?_)
      refine S_gd (fun c57 => ?_)
      refine s_lald (pc := 112) c56 c57 (by decide +kernel) ?_
      refine S_gd (fun c58 => ?_)
      refine s_cVv (pc := 113) [.long v7, .long v15, .long v21, .long (hJ g12 (hR g12 a1 4) a2.toNatClampNeg)] (tX1_addBetween a0 v7 v15 v21 (hJ g12 (hR g12 a1 4) a2.toNatClampNeg) g12) c58 cw_X1_71 rfl ⟨⟨Nat.le_of_ble_eq_true rfl, Nat.le_of_ble_eq_true rfl⟩, Nat.le_of_ble_eq_true rfl⟩ rfl (by decide +kernel) (fun _ g59 e60 => ?_)
      refine s_goto (pc := 116) (off := 116) 232 (by decide +kernel) (by decide) ?_
      exact s_vret (pc := 232) rfl (by decide +kernel)
    · refine s_aload_n (pc := 119) (k0 := 1) (i := 1) rfl 5 rfl (by decide +kernel) ?_
      refine s_getR (pc := 120) (k := 4) c16 ft_X1_36 rfl (by decide +kernel) ?_
      refine s_iload_n (pc := 123) (k0 := 2) (i := 2) rfl 6 rfl (by decide +kernel) ?_
      refine S_gd (fun c28 => ?_)
      refine S_gd (fun c29 => ?_)
      refine s_lald (pc := 124) c28 c29 (by decide +kernel) ?_
      refine s_lload (pc := 125) (i := 11) 0 rfl (by decide +kernel) ?_
      refine s_lmul (pc := 127) (by decide +kernel) ?_
      refine s_aload_n (pc := 128) (k0 := 3) (i := 3) rfl 7 rfl (by decide +kernel) ?_
      refine s_getR (pc := 129) (k := 4) c22 ft_X1_36 rfl (by decide +kernel) ?_
      refine s_iload (pc := 132) (i := 4) 8 rfl (by decide +kernel) ?_
      refine S_gd (fun c30 => ?_)
      refine S_gd (fun c31 => ?_)
      refine s_lald (pc := 134) c30 c31 (by decide +kernel) ?_
      refine s_lload (pc := 135) (i := 9) 1 rfl (by decide +kernel) ?_
      refine s_lmul (pc := 137) (by decide +kernel) ?_
      refine s_lcmp (pc := 138) (by decide +kernel) ?_
      refine s_if_gt (pc := 139) (off := 49) 188 (by decide +kernel) (by decide) (fun _ => ?_) (fun _ => ?_)
      · refine s_aload_n (pc := 188) (k0 := 0) (i := 0) rfl 4 rfl (by decide +kernel) ?_
        refine s_lload (pc := 189) (i := 5) 3 rfl (by decide +kernel) ?_
        refine s_lload (pc := 191) (i := 7) 2 rfl (by decide +kernel) ?_
        refine s_lload (pc := 193) (i := 11) 0 rfl (by decide +kernel) ?_
        refine s_aload_n (pc := 195) (k0 := 3) (i := 3) rfl 7 rfl (by decide +kernel) ?_
        refine s_getR (pc := 196) (k := 4) c22 ft_X1_36 rfl (by decide +kernel) ?_
        refine s_iload (pc := 199) (i := 4) 8 rfl (by decide +kernel) ?_
        refine s_lald (pc := 201) c30 c31 (by decide +kernel) ?_
        refine S_gd (fun c32 => ?_)
        refine s_cVv (pc := 202) [.long v7, .long v15, .long v27, .long (hJ g12 (hR g12 a3 4) a4.toNatClampNeg)] (tX1_addBetween a0 v7 v15 v27 (hJ g12 (hR g12 a3 4) a4.toNatClampNeg) g12) c32 cw_X1_71 rfl ⟨⟨Nat.le_of_ble_eq_true rfl, Nat.le_of_ble_eq_true rfl⟩, Nat.le_of_ble_eq_true rfl⟩ rfl (by decide +kernel) (fun _ g33 e34 => ?_)
        refine s_aload_n (pc := 205) (k0 := 0) (i := 0) rfl 4 rfl (by decide +kernel) ?_
        refine s_lload (pc := 206) (i := 5) 3 rfl (by decide +kernel) ?_
        refine s_lload (pc := 208) (i := 11) 0 rfl (by decide +kernel) ?_
        refine s_ladd (pc := 210) (by decide +kernel) ?_
        refine s_lload (pc := 211) (i := 7) 2 rfl (by decide +kernel) ?_
        refine s_aload_n (pc := 213) (k0 := 3) (i := 3) rfl 7 rfl (by decide +kernel) ?_
        have c35 := kp e34 c22 (by decide)
        refine s_getR (pc := 214) (k := 4) c35 ft_X1_36 rfl (by decide +kernel) ?_
        refine s_iload (pc := 217) (i := 4) 8 rfl (by decide +kernel) ?_
        refine S_gd (fun c36 => ?_)
        refine S_gd (fun c37 => ?_)
        refine s_lald (pc := 219) c36 c37 (by decide +kernel) ?_
        refine s_ladd (pc := 220) (by decide +kernel) ?_
        refine s_lload (pc := 221) (i := 9) 1 rfl (by decide +kernel) ?_
        refine s_aload_n (pc := 223) (k0 := 1) (i := 1) rfl 5 rfl (by decide +kernel) ?_
        have c38 := kp e34 c16 (by decide)
        refine s_getR (pc := 224) (k := 4) c38 ft_X1_36 rfl (by decide +kernel) ?_
        refine s_iload_n (pc := 227) (k0 := 2) (i := 2) rfl 6 rfl (by decide +kernel) ?_
        refine S_gd (fun c39 => ?_)
        refine S_gd (fun c40 => ?_)
        refine s_lald (pc := 228) c39 c40 (by decide +kernel) ?_
        have c41 := kp e34 c32 (by decide)
        refine s_cVv (pc := 229) [.long (v7 + v27), .long (v15 + (hJ g33 (hR g33 a3 4) a4.toNatClampNeg)), .long v21, .long (hJ g33 (hR g33 a1 4) a2.toNatClampNeg)] (tX1_addBetween a0 (v7 + v27) (v15 + (hJ g33 (hR g33 a3 4) a4.toNatClampNeg)) v21 (hJ g33 (hR g33 a1 4) a2.toNatClampNeg) g33) c41 cw_X1_71 rfl ⟨⟨Nat.le_of_ble_eq_true rfl, Nat.le_of_ble_eq_true rfl⟩, Nat.le_of_ble_eq_true rfl⟩ rfl (by decide +kernel) (fun _ g42 e43 => ?_)
        exact s_vret (pc := 232) rfl (by decide +kernel)
      · refine s_aload_n (pc := 142) (k0 := 0) (i := 0) rfl 4 rfl (by decide +kernel) ?_
        refine s_lload (pc := 143) (i := 5) 3 rfl (by decide +kernel) ?_
        refine s_lload (pc := 145) (i := 7) 2 rfl (by decide +kernel) ?_
        refine s_lload (pc := 147) (i := 9) 1 rfl (by decide +kernel) ?_
        refine s_aload_n (pc := 149) (k0 := 1) (i := 1) rfl 5 rfl (by decide +kernel) ?_
        refine s_getR (pc := 150) (k := 4) c16 ft_X1_36 rfl (by decide +kernel) ?_
        refine s_iload_n (pc := 153) (k0 := 2) (i := 2) rfl 6 rfl (by decide +kernel) ?_
        refine s_lald (pc := 154) c28 c29 (by decide +kernel) ?_
        refine S_gd (fun c44 => ?_)
        refine s_cVv (pc := 155) [.long v7, .long v15, .long v21, .long (hJ g12 (hR g12 a1 4) a2.toNatClampNeg)] (tX1_addBetween a0 v7 v15 v21 (hJ g12 (hR g12 a1 4) a2.toNatClampNeg) g12) c44 cw_X1_71 rfl ⟨⟨Nat.le_of_ble_eq_true rfl, Nat.le_of_ble_eq_true rfl⟩, Nat.le_of_ble_eq_true rfl⟩ rfl (by decide +kernel) (fun _ g45 e46 => ?_)
        refine s_aload_n (pc := 158) (k0 := 0) (i := 0) rfl 4 rfl (by decide +kernel) ?_
        refine s_lload (pc := 159) (i := 5) 3 rfl (by decide +kernel) ?_
        refine s_lload (pc := 161) (i := 9) 1 rfl (by decide +kernel) ?_
        refine s_ladd (pc := 163) (by decide +kernel) ?_
        refine s_lload (pc := 164) (i := 7) 2 rfl (by decide +kernel) ?_
        refine s_aload_n (pc := 166) (k0 := 1) (i := 1) rfl 5 rfl (by decide +kernel) ?_
        have c47 := kp e46 c16 (by decide)
        refine s_getR (pc := 167) (k := 4) c47 ft_X1_36 rfl (by decide +kernel) ?_
        refine s_iload_n (pc := 170) (k0 := 2) (i := 2) rfl 6 rfl (by decide +kernel) ?_
        refine S_gd (fun c48 => ?_)
        refine S_gd (fun c49 => ?_)
        refine s_lald (pc := 171) c48 c49 (by decide +kernel) ?_
        refine s_ladd (pc := 172) (by decide +kernel) ?_
        refine s_lload (pc := 173) (i := 11) 0 rfl (by decide +kernel) ?_
        refine s_aload_n (pc := 175) (k0 := 3) (i := 3) rfl 7 rfl (by decide +kernel) ?_
        have c50 := kp e46 c22 (by decide)
        refine s_getR (pc := 176) (k := 4) c50 ft_X1_36 rfl (by decide +kernel) ?_
        refine s_iload (pc := 179) (i := 4) 8 rfl (by decide +kernel) ?_
        refine S_gd (fun c51 => ?_)
        refine S_gd (fun c52 => ?_)
        refine s_lald (pc := 181) c51 c52 (by decide +kernel) ?_
        have c53 := kp e46 c44 (by decide)
        refine s_cVv (pc := 182) [.long (v7 + v21), .long (v15 + (hJ g45 (hR g45 a1 4) a2.toNatClampNeg)), .long v27, .long (hJ g45 (hR g45 a3 4) a4.toNatClampNeg)] (tX1_addBetween a0 (v7 + v21) (v15 + (hJ g45 (hR g45 a1 4) a2.toNatClampNeg)) v27 (hJ g45 (hR g45 a3 4) a4.toNatClampNeg) g45) c53 cw_X1_71 rfl ⟨⟨Nat.le_of_ble_eq_true rfl, Nat.le_of_ble_eq_true rfl⟩, Nat.le_of_ble_eq_true rfl⟩ rfl (by decide +kernel) (fun _ g54 e55 => ?_)
        refine s_goto (pc := 185) (off := 47) 232 (by decide +kernel) (by decide) ?_
        exact s_vret (pc := 232) rfl (by decide +kernel)
theorem tX1_addJoined (a0 : Nat) (a1 : Nat) (a2 : Int32) (a3 : Nat) (a4 : Int32) (h : xH) : Ct yX1_addJoined kX1_addJoined emV [.ref a0, .ref a1, .int a2, .ref a3, .int a4] h (fX1_addJoined a0 a1 a2 a3 a4 h) := Ct_of (by decide +kernel) rfl rfl rfl (Nat.le_of_ble_eq_true rfl) rfl (pX1_addJoined_e a0 a1 a2 a3 a4 h)
def fX1_addTurned_b97 (r2 : Nat → Nat → Int32 → xH → Option (Unit × xH))  (a0 : Nat) (a1 : Nat) (a2 : Int32) (h : xH) : Option (Unit × xH) :=
  lt (a2 + (1 : Int32)) (fun v1 =>
  r2 a0 a1 v1 h)
def fX1_addTurned_b53 (r2 : Nat → Nat → Int32 → xH → Option (Unit × xH))  (a0 : Nat) (a1 : Nat) (a2 : Int32) (a3 : Int32) (a4 : Int32) (h : xH) : Option (Unit × xH) :=
  if kc h a1 = 4 then
  if kc h (hR h a1 3) = 9 then
  if ix a3 (kl h (hR h a1 3)) then
  if kc h (hR h a1 1) = 9 then
  if ix a3 (kl h (hR h a1 1)) then
  if ix a4 (kl h (hR h a1 3)) then
  if ix a4 (kl h (hR h a1 1)) then
  if kc h a0 = 1 then
  bd (fX1_addBetween a0 (hJ h (hR h a1 3) a3.toNatClampNeg) (hJ h (hR h a1 1) a3.toNatClampNeg) ((hJ h (hR h a1 3) a4.toNatClampNeg) - (hJ h (hR h a1 3) a3.toNatClampNeg)) ((hJ h (hR h a1 1) a4.toNatClampNeg) - (hJ h (hR h a1 1) a3.toNatClampNeg)) h) (fun _ g9 =>
  fX1_addTurned_b97 r2 a0 a1 a2 g9)
  else none
  else none
  else none
  else none
  else none
  else none
  else none
  else none
def fX1_addTurned_b2 (r2 : Nat → Nat → Int32 → xH → Option (Unit × xH))  (a0 : Nat) (a1 : Nat) (a2 : Int32) (h : xH) : Option (Unit × xH) :=
  if kc h a1 = 4 then
  if (hI h a1 0) ≤ a2 then (
  some ((), h))
  else (
  bd (fX4_beginsPiece a1 a2 h) (fun w4 g2 =>
  if w4 = 0 then (
  fX1_addTurned_b97 r2 a0 a1 a2 g2)
  else (
  bd (fX4_endOfPiece a1 a2 g2) (fun w8 g6 =>
  if kc g6 (hR g6 a1 3) = 9 then
  if ix w8 (kl g6 (hR g6 a1 3)) then
  if ix a2 (kl g6 (hR g6 a1 3)) then
  if 0 ≤ (lg_cmp (hJ g6 (hR g6 a1 3) w8.toNatClampNeg) (hJ g6 (hR g6 a1 3) a2.toNatClampNeg)) then (
  fX1_addTurned_b53 r2 a0 a1 a2 a2 w8 g6)
  else (
  fX1_addTurned_b53 r2 a0 a1 a2 w8 a2 g6)
  else none
  else none
  else none))))
  else none
def fX1_addTurned_l2  : Nat → Nat → Nat → Int32 → xH → Option (Unit × xH)
  | 0 => fun _ _ _ _ => none
  | k + 1 => fX1_addTurned_b2 (fX1_addTurned_l2  k)
def fX1_addTurned   (a0 : Nat) (a1 : Nat) (h : xH) : Option (Unit × xH) :=
  lt (0 : Int32) (fun v1 =>
  fX1_addTurned_l2 FU a0 a1 v1 h)
theorem pX1_addTurned_b97 {h0 : xH} {r2 : Nat → Nat → Int32 → xH → Option (Unit × xH)} (hr2 : ∀  (a0 : Nat) (a1 : Nat) (a2 : Int32) (g : xH), S emV kX1_addTurned h0 2 [(0, .ref a0), (1, .ref a1), (2, .int a2)] [] g (r2  a0 a1 a2 g))  (a0 : Nat) (a1 : Nat) (a2 : Int32) (h : xH) : S emV kX1_addTurned h0 97 [(0, .ref a0), (1, .ref a1), (2, .int a2)] [] h (fX1_addTurned_b97 r2 a0 a1 a2 h) := by
  unfold fX1_addTurned_b97
  refine s_iinc (pc := 97) (L' := [(2, .int (a2 + (1 : Int32))), (0, .ref a0), (1, .ref a1)]) (i := 2) (n := 1) 2 rfl rfl (by decide) rfl (by decide +kernel) ?_
  refine s_nmI0 (e := a2 + (1 : Int32)) (L := fun v1 => [(2, .int v1), (0, .ref a0), (1, .ref a1)]) (fun v1 => ?_)
  refine s_goto (pc := 100) (off := -98) 2 (by decide +kernel) (by decide) ?_
  refine S_sub [1, 2, 0] rfl ?_
  exact hr2 a0 a1 v1 h
theorem pX1_addTurned_b53 {h0 : xH} {r2 : Nat → Nat → Int32 → xH → Option (Unit × xH)} (hr2 : ∀  (a0 : Nat) (a1 : Nat) (a2 : Int32) (g : xH), S emV kX1_addTurned h0 2 [(0, .ref a0), (1, .ref a1), (2, .int a2)] [] g (r2  a0 a1 a2 g))  (a0 : Nat) (a1 : Nat) (a2 : Int32) (a3 : Int32) (a4 : Int32) (h : xH) : S emV kX1_addTurned h0 53 [(0, .ref a0), (1, .ref a1), (2, .int a2), (3, .int a3), (4, .int a4)] [] h (fX1_addTurned_b53 r2 a0 a1 a2 a3 a4 h) := by
  unfold fX1_addTurned_b53
  refine s_aload_n (pc := 53) (k0 := 0) (i := 0) rfl 0 rfl (by decide +kernel) ?_
  refine s_aload_n (pc := 54) (k0 := 1) (i := 1) rfl 1 rfl (by decide +kernel) ?_
  refine S_gd (fun c1 => ?_)
  refine s_getR (pc := 55) (k := 3) c1 ft_X1_61 rfl (by decide +kernel) ?_
  refine s_iload_n (pc := 58) (k0 := 3) (i := 3) rfl 3 rfl (by decide +kernel) ?_
  refine S_gd (fun c2 => ?_)
  refine S_gd (fun c3 => ?_)
  refine s_lald (pc := 59) c2 c3 (by decide +kernel) ?_
  refine s_aload_n (pc := 60) (k0 := 1) (i := 1) rfl 1 rfl (by decide +kernel) ?_
  refine s_getR (pc := 61) (k := 1) c1 ft_X1_58 rfl (by decide +kernel) ?_
  refine s_iload_n (pc := 64) (k0 := 3) (i := 3) rfl 3 rfl (by decide +kernel) ?_
  refine S_gd (fun c4 => ?_)
  refine S_gd (fun c5 => ?_)
  refine s_lald (pc := 65) c4 c5 (by decide +kernel) ?_
  refine s_aload_n (pc := 66) (k0 := 1) (i := 1) rfl 1 rfl (by decide +kernel) ?_
  refine s_getR (pc := 67) (k := 3) c1 ft_X1_61 rfl (by decide +kernel) ?_
  refine s_iload (pc := 70) (i := 4) 4 rfl (by decide +kernel) ?_
  refine S_gd (fun c6 => ?_)
  refine s_lald (pc := 72) c2 c6 (by decide +kernel) ?_
  refine s_aload_n (pc := 73) (k0 := 1) (i := 1) rfl 1 rfl (by decide +kernel) ?_
  refine s_getR (pc := 74) (k := 3) c1 ft_X1_61 rfl (by decide +kernel) ?_
  refine s_iload_n (pc := 77) (k0 := 3) (i := 3) rfl 3 rfl (by decide +kernel) ?_
  refine s_lald (pc := 78) c2 c3 (by decide +kernel) ?_
  refine s_lsub (pc := 79) (by decide +kernel) ?_
  refine s_aload_n (pc := 80) (k0 := 1) (i := 1) rfl 1 rfl (by decide +kernel) ?_
  refine s_getR (pc := 81) (k := 1) c1 ft_X1_58 rfl (by decide +kernel) ?_
  refine s_iload (pc := 84) (i := 4) 4 rfl (by decide +kernel) ?_
  refine S_gd (fun c7 => ?_)
  refine s_lald (pc := 86) c4 c7 (by decide +kernel) ?_
  refine s_aload_n (pc := 87) (k0 := 1) (i := 1) rfl 1 rfl (by decide +kernel) ?_
  refine s_getR (pc := 88) (k := 1) c1 ft_X1_58 rfl (by decide +kernel) ?_
  refine s_iload_n (pc := 91) (k0 := 3) (i := 3) rfl 3 rfl (by decide +kernel) ?_
  refine s_lald (pc := 92) c4 c5 (by decide +kernel) ?_
  refine s_lsub (pc := 93) (by decide +kernel) ?_
  refine S_gd (fun c8 => ?_)
  refine s_cVv (pc := 94) [.long (hJ h (hR h a1 3) a3.toNatClampNeg), .long (hJ h (hR h a1 1) a3.toNatClampNeg), .long ((hJ h (hR h a1 3) a4.toNatClampNeg) - (hJ h (hR h a1 3) a3.toNatClampNeg)), .long ((hJ h (hR h a1 1) a4.toNatClampNeg) - (hJ h (hR h a1 1) a3.toNatClampNeg))] (tX1_addBetween a0 (hJ h (hR h a1 3) a3.toNatClampNeg) (hJ h (hR h a1 1) a3.toNatClampNeg) ((hJ h (hR h a1 3) a4.toNatClampNeg) - (hJ h (hR h a1 3) a3.toNatClampNeg)) ((hJ h (hR h a1 1) a4.toNatClampNeg) - (hJ h (hR h a1 1) a3.toNatClampNeg)) h) c8 cw_X1_71 rfl ⟨⟨Nat.le_of_ble_eq_true rfl, Nat.le_of_ble_eq_true rfl⟩, Nat.le_of_ble_eq_true rfl⟩ rfl (by decide +kernel) (fun _ g9 e10 => ?_)
  refine S_sub [0, 1, 2] rfl ?_
  exact pX1_addTurned_b97 hr2 a0 a1 a2 g9
theorem pX1_addTurned_b2 {h0 : xH} {r2 : Nat → Nat → Int32 → xH → Option (Unit × xH)} (hr2 : ∀  (a0 : Nat) (a1 : Nat) (a2 : Int32) (g : xH), S emV kX1_addTurned h0 2 [(0, .ref a0), (1, .ref a1), (2, .int a2)] [] g (r2  a0 a1 a2 g))  (a0 : Nat) (a1 : Nat) (a2 : Int32) (h : xH) : S emV kX1_addTurned h0 2 [(0, .ref a0), (1, .ref a1), (2, .int a2)] [] h (fX1_addTurned_b2 r2 a0 a1 a2 h) := by
  unfold fX1_addTurned_b2
  refine s_iload_n (pc := 2) (k0 := 2) (i := 2) rfl 2 rfl (by decide +kernel) ?_
  refine s_aload_n (pc := 3) (k0 := 1) (i := 1) rfl 1 rfl (by decide +kernel) ?_
  refine S_gd (fun c1 => ?_)
  refine s_getI (pc := 4) (k := 0) c1 ft_X1_49 rfl (by decide +kernel) ?_
  refine s_icmp_ge (pc := 7) (off := 96) 103 (by decide +kernel) (by decide) (fun _ => ?_) (fun _ => ?_)
  · exact s_vret (pc := 103) rfl (by decide +kernel)
  · refine s_aload_n (pc := 10) (k0 := 1) (i := 1) rfl 1 rfl (by decide +kernel) ?_
    refine s_iload_n (pc := 11) (k0 := 2) (i := 2) rfl 2 rfl (by decide +kernel) ?_
    refine s_cVi (pc := 12) [.int a2] (tX4_beginsPiece a1 a2 h) c1 cw_X1_54 rfl ⟨⟨Nat.le_of_ble_eq_true rfl, Nat.le_of_ble_eq_true rfl⟩, Nat.le_of_ble_eq_true rfl⟩ rfl (by decide +kernel) (fun w4 g2 e3 => ?_)
    refine s_if_ne (pc := 15) (off := 6) 21 (by decide +kernel) (by decide) (fun _ => ?_) (fun _ => ?_)
    · refine s_goto (pc := 18) (off := 79) 97 (by decide +kernel) (by decide) ?_
      exact pX1_addTurned_b97 hr2 a0 a1 a2 g2
    · refine s_iload_n (pc := 21) (k0 := 2) (i := 2) rfl 2 rfl (by decide +kernel) ?_
      refine s_istore_n (pc := 22) (L' := [(3, .int a2), (0, .ref a0), (1, .ref a1), (2, .int a2)]) (k0 := 3) (i := 3) rfl (by decide) rfl (by decide +kernel) ?_
      refine s_aload_n (pc := 23) (k0 := 1) (i := 1) rfl 2 rfl (by decide +kernel) ?_
      refine s_iload_n (pc := 24) (k0 := 2) (i := 2) rfl 3 rfl (by decide +kernel) ?_
      have c5 := kp e3 c1 (by decide)
      refine s_cVi (pc := 25) [.int a2] (tX4_endOfPiece a1 a2 g2) c5 cw_X1_87 rfl ⟨⟨Nat.le_of_ble_eq_true rfl, Nat.le_of_ble_eq_true rfl⟩, Nat.le_of_ble_eq_true rfl⟩ rfl (by decide +kernel) (fun w8 g6 e7 => ?_)
      refine s_istore (pc := 28) (L' := [(4, .int w8), (3, .int a2), (0, .ref a0), (1, .ref a1), (2, .int a2)]) (i := 4) (by decide) rfl (by decide +kernel) ?_
      refine s_aload_n (pc := 30) (k0 := 1) (i := 1) rfl 3 rfl (by decide +kernel) ?_
      have c9 := kp e7 c5 (by decide)
      refine s_getR (pc := 31) (k := 3) c9 ft_X1_61 rfl (by decide +kernel) ?_
      refine s_iload (pc := 34) (i := 4) 0 rfl (by decide +kernel) ?_
      refine S_gd (fun c10 => ?_)
      refine S_gd (fun c11 => ?_)
      refine s_lald (pc := 36) c10 c11 (by decide +kernel) ?_
      refine s_aload_n (pc := 37) (k0 := 1) (i := 1) rfl 3 rfl (by decide +kernel) ?_
      refine s_getR (pc := 38) (k := 3) c9 ft_X1_61 rfl (by decide +kernel) ?_
      refine s_iload_n (pc := 41) (k0 := 3) (i := 3) rfl 1 rfl (by decide +kernel) ?_
      refine S_gd (fun c12 => ?_)
      refine s_lald (pc := 42) c10 c12 (by decide +kernel) ?_
      refine s_lcmp (pc := 43) (by decide +kernel) ?_
      refine s_if_ge (pc := 44) (off := 9) 53 (by decide +kernel) (by decide) (fun _ => ?_) (fun _ => ?_)
      · refine S_sub [2, 3, 4, 1, 0] rfl ?_
        exact pX1_addTurned_b53 hr2 a0 a1 a2 a2 w8 g6
      · refine s_iload (pc := 47) (i := 4) 0 rfl (by decide +kernel) ?_
        refine s_istore_n (pc := 49) (L' := [(3, .int w8), (4, .int w8), (0, .ref a0), (1, .ref a1), (2, .int a2)]) (k0 := 3) (i := 3) rfl (by decide) rfl (by decide +kernel) ?_
        refine s_iload_n (pc := 50) (k0 := 2) (i := 2) rfl 4 rfl (by decide +kernel) ?_
        refine s_istore (pc := 51) (L' := [(4, .int a2), (3, .int w8), (0, .ref a0), (1, .ref a1), (2, .int a2)]) (i := 4) (by decide) rfl (by decide +kernel) ?_
        refine S_sub [2, 3, 4, 1, 0] rfl ?_
        exact pX1_addTurned_b53 hr2 a0 a1 a2 w8 a2 g6
theorem pX1_addTurned_l2 {h0 : xH}   : ∀ (k : Nat)  (a0 : Nat) (a1 : Nat) (a2 : Int32) (h : xH), S emV kX1_addTurned h0 2 [(0, .ref a0), (1, .ref a1), (2, .int a2)] [] h (fX1_addTurned_l2  k  a0 a1 a2 h) := by
  intro k
  induction k with
  | zero => intros; exact S_none
  | succ k ih => intro  a0 a1 a2 h; exact pX1_addTurned_b2 ih  a0 a1 a2 h
theorem pX1_addTurned_e    (a0 : Nat) (a1 : Nat) (h : xH) : S emV kX1_addTurned h 0 [(0, .ref a0), (1, .ref a1)] [] h (fX1_addTurned  a0 a1 h) := by
  unfold fX1_addTurned
  refine s_iconst (pc := 0) (n := 0) (v := (0 : Int32)) (by decide) (by decide +kernel) ?_
  refine s_nmI (fun v1 => ?_)
  refine s_istore_n (pc := 1) (L' := [(2, .int v1), (0, .ref a0), (1, .ref a1)]) (k0 := 2) (i := 2) rfl (by decide) rfl (by decide +kernel) ?_
  refine S_sub [1, 2, 0] rfl ?_
  exact pX1_addTurned_l2 FU a0 a1 v1 h
theorem tX1_addTurned (a0 : Nat) (a1 : Nat) (h : xH) : Ct yX1_addTurned kX1_addTurned emV [.ref a0, .ref a1] h (fX1_addTurned a0 a1 h) := Ct_of (by decide +kernel) rfl rfl rfl (Nat.le_of_ble_eq_true rfl) rfl (pX1_addTurned_e a0 a1 h)
def fX1_addHull_b30 (r30 : Nat → Nat → Int32 → Int32 → xH → Option (Unit × xH))  (a0 : Nat) (a1 : Nat) (a2 : Int32) (a3 : Int32) (h : xH) : Option (Unit × xH) :=
  if kc h a1 = 4 then
  if (hI h a1 0) ≤ a3 then (
  some ((), h))
  else (
  bd (fX4_hullNext a1 a2 h) (fun w4 g2 =>
  if 0 ≤ w4 then (
  if kc g2 (hR g2 a1 1) = 9 then
  if ix a2 (kl g2 (hR g2 a1 1)) then
  if kc g2 (hR g2 a1 3) = 9 then
  if ix a2 (kl g2 (hR g2 a1 3)) then
  if ix w4 (kl g2 (hR g2 a1 1)) then
  if ix w4 (kl g2 (hR g2 a1 3)) then
  if kc g2 a0 = 1 then
  bd (fX1_addBetween a0 (hJ g2 (hR g2 a1 1) a2.toNatClampNeg) (hJ g2 (hR g2 a1 3) a2.toNatClampNeg) ((hJ g2 (hR g2 a1 1) w4.toNatClampNeg) - (hJ g2 (hR g2 a1 1) a2.toNatClampNeg)) ((hJ g2 (hR g2 a1 3) w4.toNatClampNeg) - (hJ g2 (hR g2 a1 3) a2.toNatClampNeg)) g2) (fun _ g13 =>
  lt (a3 + (1 : Int32)) (fun v15 =>
  r30 a0 a1 w4 v15 g13))
  else none
  else none
  else none
  else none
  else none
  else none
  else none)
  else (
  some ((), g2))))
  else none
def fX1_addHull_l30  : Nat → Nat → Nat → Int32 → Int32 → xH → Option (Unit × xH)
  | 0 => fun _ _ _ _ _ => none
  | k + 1 => fX1_addHull_b30 (fX1_addHull_l30  k)
def fX1_addHull   (a0 : Nat) (a1 : Nat) (h : xH) : Option (Unit × xH) :=
  if kc h a1 = 4 then
  if (hI h a1 0) = 0 then (
  some ((), h))
  else (
  lt (0 : Int32) (fun v2 =>
  if kc h (hR h a1 1) = 9 then
  if ix v2 (kl h (hR h a1 1)) then
  if kc h (hR h a1 3) = 9 then
  if ix v2 (kl h (hR h a1 3)) then
  if kc h a0 = 1 then
  bd (fX1_addBetween a0 (hJ h (hR h a1 1) v2.toNatClampNeg) (hJ h (hR h a1 3) v2.toNatClampNeg) (0 : Int64) (0 : Int64) h) (fun _ g8 =>
  lt (0 : Int32) (fun v10 =>
  fX1_addHull_l30 FU a0 a1 v2 v10 g8))
  else none
  else none
  else none
  else none
  else none))
  else none
theorem pX1_addHull_b30 {h0 : xH} {r30 : Nat → Nat → Int32 → Int32 → xH → Option (Unit × xH)} (hr30 : ∀  (a0 : Nat) (a1 : Nat) (a2 : Int32) (a3 : Int32) (g : xH), S emV kX1_addHull h0 30 [(0, .ref a0), (1, .ref a1), (2, .int a2), (3, .int a3)] [] g (r30  a0 a1 a2 a3 g))  (a0 : Nat) (a1 : Nat) (a2 : Int32) (a3 : Int32) (h : xH) : S emV kX1_addHull h0 30 [(0, .ref a0), (1, .ref a1), (2, .int a2), (3, .int a3)] [] h (fX1_addHull_b30 r30 a0 a1 a2 a3 h) := by
  unfold fX1_addHull_b30
  refine s_iload_n (pc := 30) (k0 := 3) (i := 3) rfl 3 rfl (by decide +kernel) ?_
  refine s_aload_n (pc := 31) (k0 := 1) (i := 1) rfl 1 rfl (by decide +kernel) ?_
  refine S_gd (fun c1 => ?_)
  refine s_getI (pc := 32) (k := 0) c1 ft_X1_49 rfl (by decide +kernel) ?_
  refine s_icmp_ge (pc := 35) (off := 69) 104 (by decide +kernel) (by decide) (fun _ => ?_) (fun _ => ?_)
  · exact s_vret (pc := 104) rfl (by decide +kernel)
  · refine s_aload_n (pc := 38) (k0 := 1) (i := 1) rfl 1 rfl (by decide +kernel) ?_
    refine s_iload_n (pc := 39) (k0 := 2) (i := 2) rfl 2 rfl (by decide +kernel) ?_
    refine s_cVi (pc := 40) [.int a2] (tX4_hullNext a1 a2 h) c1 cw_X1_91 rfl ⟨⟨Nat.le_of_ble_eq_true rfl, Nat.le_of_ble_eq_true rfl⟩, Nat.le_of_ble_eq_true rfl⟩ rfl (by decide +kernel) (fun w4 g2 e3 => ?_)
    refine s_istore (pc := 43) (L' := [(4, .int w4), (0, .ref a0), (1, .ref a1), (2, .int a2), (3, .int a3)]) (i := 4) (by decide) rfl (by decide +kernel) ?_
    refine s_iload (pc := 45) (i := 4) 0 rfl (by decide +kernel) ?_
    refine s_if_ge (pc := 47) (off := 4) 51 (by decide +kernel) (by decide) (fun _ => ?_) (fun _ => ?_)
    · refine s_aload_n (pc := 51) (k0 := 0) (i := 0) rfl 1 rfl (by decide +kernel) ?_
      refine s_aload_n (pc := 52) (k0 := 1) (i := 1) rfl 2 rfl (by decide +kernel) ?_
      have c5 := kp e3 c1 (by decide)
      refine s_getR (pc := 53) (k := 1) c5 ft_X1_58 rfl (by decide +kernel) ?_
      refine s_iload_n (pc := 56) (k0 := 2) (i := 2) rfl 3 rfl (by decide +kernel) ?_
      refine S_gd (fun c6 => ?_)
      refine S_gd (fun c7 => ?_)
      refine s_lald (pc := 57) c6 c7 (by decide +kernel) ?_
      refine s_aload_n (pc := 58) (k0 := 1) (i := 1) rfl 2 rfl (by decide +kernel) ?_
      refine s_getR (pc := 59) (k := 3) c5 ft_X1_61 rfl (by decide +kernel) ?_
      refine s_iload_n (pc := 62) (k0 := 2) (i := 2) rfl 3 rfl (by decide +kernel) ?_
      refine S_gd (fun c8 => ?_)
      refine S_gd (fun c9 => ?_)
      refine s_lald (pc := 63) c8 c9 (by decide +kernel) ?_
      refine s_aload_n (pc := 64) (k0 := 1) (i := 1) rfl 2 rfl (by decide +kernel) ?_
      refine s_getR (pc := 65) (k := 1) c5 ft_X1_58 rfl (by decide +kernel) ?_
      refine s_iload (pc := 68) (i := 4) 0 rfl (by decide +kernel) ?_
      refine S_gd (fun c10 => ?_)
      refine s_lald (pc := 70) c6 c10 (by decide +kernel) ?_
      refine s_aload_n (pc := 71) (k0 := 1) (i := 1) rfl 2 rfl (by decide +kernel) ?_
      refine s_getR (pc := 72) (k := 1) c5 ft_X1_58 rfl (by decide +kernel) ?_
      refine s_iload_n (pc := 75) (k0 := 2) (i := 2) rfl 3 rfl (by decide +kernel) ?_
      refine s_lald (pc := 76) c6 c7 (by decide +kernel) ?_
      refine s_lsub (pc := 77) (by decide +kernel) ?_
      refine s_aload_n (pc := 78) (k0 := 1) (i := 1) rfl 2 rfl (by decide +kernel) ?_
      refine s_getR (pc := 79) (k := 3) c5 ft_X1_61 rfl (by decide +kernel) ?_
      refine s_iload (pc := 82) (i := 4) 0 rfl (by decide +kernel) ?_
      refine S_gd (fun c11 => ?_)
      refine s_lald (pc := 84) c8 c11 (by decide +kernel) ?_
      refine s_aload_n (pc := 85) (k0 := 1) (i := 1) rfl 2 rfl (by decide +kernel) ?_
      refine s_getR (pc := 86) (k := 3) c5 ft_X1_61 rfl (by decide +kernel) ?_
      refine s_iload_n (pc := 89) (k0 := 2) (i := 2) rfl 3 rfl (by decide +kernel) ?_
      refine s_lald (pc := 90) c8 c9 (by decide +kernel) ?_
      refine s_lsub (pc := 91) (by decide +kernel) ?_
      refine S_gd (fun c12 => ?_)
      refine s_cVv (pc := 92) [.long (hJ g2 (hR g2 a1 1) a2.toNatClampNeg), .long (hJ g2 (hR g2 a1 3) a2.toNatClampNeg), .long ((hJ g2 (hR g2 a1 1) w4.toNatClampNeg) - (hJ g2 (hR g2 a1 1) a2.toNatClampNeg)), .long ((hJ g2 (hR g2 a1 3) w4.toNatClampNeg) - (hJ g2 (hR g2 a1 3) a2.toNatClampNeg))] (tX1_addBetween a0 (hJ g2 (hR g2 a1 1) a2.toNatClampNeg) (hJ g2 (hR g2 a1 3) a2.toNatClampNeg) ((hJ g2 (hR g2 a1 1) w4.toNatClampNeg) - (hJ g2 (hR g2 a1 1) a2.toNatClampNeg)) ((hJ g2 (hR g2 a1 3) w4.toNatClampNeg) - (hJ g2 (hR g2 a1 3) a2.toNatClampNeg)) g2) c12 cw_X1_71 rfl ⟨⟨Nat.le_of_ble_eq_true rfl, Nat.le_of_ble_eq_true rfl⟩, Nat.le_of_ble_eq_true rfl⟩ rfl (by decide +kernel) (fun _ g13 e14 => ?_)
      refine s_iload (pc := 95) (i := 4) 0 rfl (by decide +kernel) ?_
      refine s_istore_n (pc := 97) (L' := [(2, .int w4), (4, .int w4), (0, .ref a0), (1, .ref a1), (3, .int a3)]) (k0 := 2) (i := 2) rfl (by decide) rfl (by decide +kernel) ?_
      refine s_iinc (pc := 98) (L' := [(3, .int (a3 + (1 : Int32))), (2, .int w4), (4, .int w4), (0, .ref a0), (1, .ref a1)]) (i := 3) (n := 1) 4 rfl rfl (by decide) rfl (by decide +kernel) ?_
      refine s_nmI0 (e := a3 + (1 : Int32)) (L := fun v15 => [(3, .int v15), (2, .int w4), (4, .int w4), (0, .ref a0), (1, .ref a1)]) (fun v15 => ?_)
      refine s_goto (pc := 101) (off := -71) 30 (by decide +kernel) (by decide) ?_
      refine S_sub [3, 4, 1, 0] rfl ?_
      exact hr30 a0 a1 w4 v15 g13
    · exact s_vret (pc := 50) rfl (by decide +kernel)
theorem pX1_addHull_l30 {h0 : xH}   : ∀ (k : Nat)  (a0 : Nat) (a1 : Nat) (a2 : Int32) (a3 : Int32) (h : xH), S emV kX1_addHull h0 30 [(0, .ref a0), (1, .ref a1), (2, .int a2), (3, .int a3)] [] h (fX1_addHull_l30  k  a0 a1 a2 a3 h) := by
  intro k
  induction k with
  | zero => intros; exact S_none
  | succ k ih => intro  a0 a1 a2 a3 h; exact pX1_addHull_b30 ih  a0 a1 a2 a3 h
theorem pX1_addHull_e    (a0 : Nat) (a1 : Nat) (h : xH) : S emV kX1_addHull h 0 [(0, .ref a0), (1, .ref a1)] [] h (fX1_addHull  a0 a1 h) := by
  unfold fX1_addHull
  refine s_aload_n (pc := 0) (k0 := 1) (i := 1) rfl 1 rfl (by decide +kernel) ?_
  refine S_gd (fun c1 => ?_)
  refine s_getI (pc := 1) (k := 0) c1 ft_X1_49 rfl (by decide +kernel) ?_
  refine s_if_ne (pc := 4) (off := 4) 8 (by decide +kernel) (by decide) (fun _ => ?_) (fun _ => ?_)
  · exact s_vret (pc := 7) rfl (by decide +kernel)
  · refine s_iconst (pc := 8) (n := 0) (v := (0 : Int32)) (by decide) (by decide +kernel) ?_
    refine s_nmI (fun v2 => ?_)
    refine s_istore_n (pc := 9) (L' := [(2, .int v2), (0, .ref a0), (1, .ref a1)]) (k0 := 2) (i := 2) rfl (by decide) rfl (by decide +kernel) ?_
    refine s_aload_n (pc := 10) (k0 := 0) (i := 0) rfl 1 rfl (by decide +kernel) ?_
    refine s_aload_n (pc := 11) (k0 := 1) (i := 1) rfl 2 rfl (by decide +kernel) ?_
    refine s_getR (pc := 12) (k := 1) c1 ft_X1_58 rfl (by decide +kernel) ?_
    refine s_iload_n (pc := 15) (k0 := 2) (i := 2) rfl 0 rfl (by decide +kernel) ?_
    refine S_gd (fun c3 => ?_)
    refine S_gd (fun c4 => ?_)
    refine s_lald (pc := 16) c3 c4 (by decide +kernel) ?_
    refine s_aload_n (pc := 17) (k0 := 1) (i := 1) rfl 2 rfl (by decide +kernel) ?_
    refine s_getR (pc := 18) (k := 3) c1 ft_X1_61 rfl (by decide +kernel) ?_
    refine s_iload_n (pc := 21) (k0 := 2) (i := 2) rfl 0 rfl (by decide +kernel) ?_
    refine S_gd (fun c5 => ?_)
    refine S_gd (fun c6 => ?_)
    refine s_lald (pc := 22) c5 c6 (by decide +kernel) ?_
    refine s_lconst (pc := 23) (n := 0) (v := (0 : Int64)) (by decide) (by decide +kernel) ?_
    refine s_lconst (pc := 24) (n := 0) (v := (0 : Int64)) (by decide) (by decide +kernel) ?_
    refine S_gd (fun c7 => ?_)
    refine s_cVv (pc := 25) [.long (hJ h (hR h a1 1) v2.toNatClampNeg), .long (hJ h (hR h a1 3) v2.toNatClampNeg), .long (0 : Int64), .long (0 : Int64)] (tX1_addBetween a0 (hJ h (hR h a1 1) v2.toNatClampNeg) (hJ h (hR h a1 3) v2.toNatClampNeg) (0 : Int64) (0 : Int64) h) c7 cw_X1_71 rfl ⟨⟨Nat.le_of_ble_eq_true rfl, Nat.le_of_ble_eq_true rfl⟩, Nat.le_of_ble_eq_true rfl⟩ rfl (by decide +kernel) (fun _ g8 e9 => ?_)
    refine s_iconst (pc := 28) (n := 0) (v := (0 : Int32)) (by decide) (by decide +kernel) ?_
    refine s_nmI (fun v10 => ?_)
    refine s_istore_n (pc := 29) (L' := [(3, .int v10), (2, .int v2), (0, .ref a0), (1, .ref a1)]) (k0 := 3) (i := 3) rfl (by decide) rfl (by decide +kernel) ?_
    refine S_sub [2, 3, 1, 0] rfl ?_
    exact pX1_addHull_l30 FU a0 a1 v2 v10 g8
theorem tX1_addHull (a0 : Nat) (a1 : Nat) (h : xH) : Ct yX1_addHull kX1_addHull emV [.ref a0, .ref a1] h (fX1_addHull a0 a1 h) := Ct_of (by decide +kernel) rfl rfl rfl (Nat.le_of_ble_eq_true rfl) rfl (pX1_addHull_e a0 a1 h)
def fX1_addCut   (a0 : Nat) (a1 : Nat) (a2 : Int32) (a3 : Int32) (a4 : Int32) (h : xH) : Option (Unit × xH) :=
  if kc h a1 = 1 then
  if kc h (hR h a1 1) = 8 then
  if ix a2 (kl h (hR h a1 1)) then
  bd (fJ9_max_7cf53 (hI h (hR h a1 1) a2.toNatClampNeg) a3 h) (fun w6 g4 =>
  if kc g4 (hR g4 a1 2) = 8 then
  if ix a2 (kl g4 (hR g4 a1 2)) then
  bd (fJ9_min_7cf53 (hI g4 (hR g4 a1 2) a2.toNatClampNeg) a4 g4) (fun w12 g10 =>
  if kc g10 (hR g10 a1 3) = 9 then
  if ix a2 (kl g10 (hR g10 a1 3)) then
  if kc g10 (hR g10 a1 4) = 9 then
  if ix a2 (kl g10 (hR g10 a1 4)) then
  if kc g10 (hR g10 a1 5) = 9 then
  if ix a2 (kl g10 (hR g10 a1 5)) then
  if kc g10 a0 = 1 then
  bd (fX1_addLine a0 w6 w12 (hJ g10 (hR g10 a1 3) a2.toNatClampNeg) (hJ g10 (hR g10 a1 4) a2.toNatClampNeg) (hJ g10 (hR g10 a1 5) a2.toNatClampNeg) g10) (fun _ g21 =>
  some ((), g21))
  else none
  else none
  else none
  else none
  else none
  else none
  else none)
  else none
  else none)
  else none
  else none
  else none
theorem pX1_addCut_e    (a0 : Nat) (a1 : Nat) (a2 : Int32) (a3 : Int32) (a4 : Int32) (h : xH) : S emV kX1_addCut h 0 [(0, .ref a0), (1, .ref a1), (2, .int a2), (3, .int a3), (4, .int a4)] [] h (fX1_addCut  a0 a1 a2 a3 a4 h) := by
  unfold fX1_addCut
  refine s_aload_n (pc := 0) (k0 := 0) (i := 0) rfl 0 rfl (by decide +kernel) ?_
  refine s_aload_n (pc := 1) (k0 := 1) (i := 1) rfl 1 rfl (by decide +kernel) ?_
  refine S_gd (fun c1 => ?_)
  refine s_getR (pc := 2) (k := 1) c1 ft_X1_25 rfl (by decide +kernel) ?_
  refine s_iload_n (pc := 5) (k0 := 2) (i := 2) rfl 2 rfl (by decide +kernel) ?_
  refine S_gd (fun c2 => ?_)
  refine S_gd (fun c3 => ?_)
  refine s_iald (pc := 6) c2 c3 (by decide +kernel) ?_
  refine s_iload_n (pc := 7) (k0 := 3) (i := 3) rfl 3 rfl (by decide +kernel) ?_
  refine s_cSi (pc := 8) [.int (hI h (hR h a1 1) a2.toNatClampNeg), .int a3] (tJ9_max_7cf53 (hI h (hR h a1 1) a2.toNatClampNeg) a3 h) cw_X1_75 rfl ⟨⟨Nat.le_of_ble_eq_true rfl, Nat.le_of_ble_eq_true rfl⟩, Nat.le_of_ble_eq_true rfl⟩ rfl (by decide +kernel) (fun w6 g4 e5 => ?_)
  refine s_aload_n (pc := 11) (k0 := 1) (i := 1) rfl 1 rfl (by decide +kernel) ?_
  have c7 := kp e5 c1 (by decide)
  refine s_getR (pc := 12) (k := 2) c7 ft_X1_29 rfl (by decide +kernel) ?_
  refine s_iload_n (pc := 15) (k0 := 2) (i := 2) rfl 2 rfl (by decide +kernel) ?_
  refine S_gd (fun c8 => ?_)
  refine S_gd (fun c9 => ?_)
  refine s_iald (pc := 16) c8 c9 (by decide +kernel) ?_
  refine s_iload (pc := 17) (i := 4) 4 rfl (by decide +kernel) ?_
  refine s_cSi (pc := 19) [.int (hI g4 (hR g4 a1 2) a2.toNatClampNeg), .int a4] (tJ9_min_7cf53 (hI g4 (hR g4 a1 2) a2.toNatClampNeg) a4 g4) cw_X1_81 rfl ⟨⟨Nat.le_of_ble_eq_true rfl, Nat.le_of_ble_eq_true rfl⟩, Nat.le_of_ble_eq_true rfl⟩ rfl (by decide +kernel) (fun w12 g10 e11 => ?_)
  refine s_aload_n (pc := 22) (k0 := 1) (i := 1) rfl 1 rfl (by decide +kernel) ?_
  have c13 := kp e11 c7 (by decide)
  refine s_getR (pc := 23) (k := 3) c13 ft_X1_32 rfl (by decide +kernel) ?_
  refine s_iload_n (pc := 26) (k0 := 2) (i := 2) rfl 2 rfl (by decide +kernel) ?_
  refine S_gd (fun c14 => ?_)
  refine S_gd (fun c15 => ?_)
  refine s_lald (pc := 27) c14 c15 (by decide +kernel) ?_
  refine s_aload_n (pc := 28) (k0 := 1) (i := 1) rfl 1 rfl (by decide +kernel) ?_
  refine s_getR (pc := 29) (k := 4) c13 ft_X1_36 rfl (by decide +kernel) ?_
  refine s_iload_n (pc := 32) (k0 := 2) (i := 2) rfl 2 rfl (by decide +kernel) ?_
  refine S_gd (fun c16 => ?_)
  refine S_gd (fun c17 => ?_)
  refine s_lald (pc := 33) c16 c17 (by decide +kernel) ?_
  refine s_aload_n (pc := 34) (k0 := 1) (i := 1) rfl 1 rfl (by decide +kernel) ?_
  refine s_getR (pc := 35) (k := 5) c13 ft_X1_39 rfl (by decide +kernel) ?_
  refine s_iload_n (pc := 38) (k0 := 2) (i := 2) rfl 2 rfl (by decide +kernel) ?_
  refine S_gd (fun c18 => ?_)
  refine S_gd (fun c19 => ?_)
  refine s_lald (pc := 39) c18 c19 (by decide +kernel) ?_
  refine S_gd (fun c20 => ?_)
  refine s_cVv (pc := 40) [.int w6, .int w12, .long (hJ g10 (hR g10 a1 3) a2.toNatClampNeg), .long (hJ g10 (hR g10 a1 4) a2.toNatClampNeg), .long (hJ g10 (hR g10 a1 5) a2.toNatClampNeg)] (tX1_addLine a0 w6 w12 (hJ g10 (hR g10 a1 3) a2.toNatClampNeg) (hJ g10 (hR g10 a1 4) a2.toNatClampNeg) (hJ g10 (hR g10 a1 5) a2.toNatClampNeg) g10) c20 cw_X1_45 rfl ⟨⟨Nat.le_of_ble_eq_true rfl, Nat.le_of_ble_eq_true rfl⟩, Nat.le_of_ble_eq_true rfl⟩ rfl (by decide +kernel) (fun _ g21 e22 => ?_)
  exact s_vret (pc := 43) rfl (by decide +kernel)
theorem tX1_addCut (a0 : Nat) (a1 : Nat) (a2 : Int32) (a3 : Int32) (a4 : Int32) (h : xH) : Ct yX1_addCut kX1_addCut emV [.ref a0, .ref a1, .int a2, .int a3, .int a4] h (fX1_addCut a0 a1 a2 a3 a4 h) := Ct_of (by decide +kernel) rfl rfl rfl (Nat.le_of_ble_eq_true rfl) rfl (pX1_addCut_e a0 a1 a2 a3 a4 h)
def fX1_addMoved   (a0 : Nat) (a1 : Nat) (a2 : Int32) (a3 : Int32) (a4 : Int32) (h : xH) : Option (Unit × xH) :=
  if kc h a1 = 1 then
  if kc h (hR h a1 3) = 9 then
  if ix a2 (kl h (hR h a1 3)) then
  if kc h (hR h a1 5) = 9 then
  if ix a2 (kl h (hR h a1 5)) then
  if kc h (hR h a1 4) = 9 then
  if ix a2 (kl h (hR h a1 4)) then
  lt (((hJ h (hR h a1 3) a2.toNatClampNeg) + (a4.toInt64 * (hJ h (hR h a1 5) a2.toNatClampNeg))) - ((hJ h (hR h a1 4) a2.toNatClampNeg) * a3.toInt64)) (fun v8 =>
  if kc h (hR h a1 1) = 8 then
  if ix a2 (kl h (hR h a1 1)) then
  if kc h (hR h a1 2) = 8 then
  if ix a2 (kl h (hR h a1 2)) then
  if kc h a0 = 1 then
  bd (fX1_addLine a0 ((hI h (hR h a1 1) a2.toNatClampNeg) + a3) ((hI h (hR h a1 2) a2.toNatClampNeg) + a3) v8 (hJ h (hR h a1 4) a2.toNatClampNeg) (hJ h (hR h a1 5) a2.toNatClampNeg) h) (fun _ g14 =>
  some ((), g14))
  else none
  else none
  else none
  else none
  else none)
  else none
  else none
  else none
  else none
  else none
  else none
  else none
theorem pX1_addMoved_e    (a0 : Nat) (a1 : Nat) (a2 : Int32) (a3 : Int32) (a4 : Int32) (h : xH) : S emV kX1_addMoved h 0 [(0, .ref a0), (1, .ref a1), (2, .int a2), (3, .int a3), (4, .int a4)] [] h (fX1_addMoved  a0 a1 a2 a3 a4 h) := by
  unfold fX1_addMoved
  refine s_aload_n (pc := 0) (k0 := 1) (i := 1) rfl 1 rfl (by decide +kernel) ?_
  refine S_gd (fun c1 => ?_)
  refine s_getR (pc := 1) (k := 3) c1 ft_X1_32 rfl (by decide +kernel) ?_
  refine s_iload_n (pc := 4) (k0 := 2) (i := 2) rfl 2 rfl (by decide +kernel) ?_
  refine S_gd (fun c2 => ?_)
  refine S_gd (fun c3 => ?_)
  refine s_lald (pc := 5) c2 c3 (by decide +kernel) ?_
  refine s_iload (pc := 6) (i := 4) 4 rfl (by decide +kernel) ?_
  refine s_i2l (pc := 8) (by decide +kernel) ?_
  refine s_aload_n (pc := 9) (k0 := 1) (i := 1) rfl 1 rfl (by decide +kernel) ?_
  refine s_getR (pc := 10) (k := 5) c1 ft_X1_39 rfl (by decide +kernel) ?_
  refine s_iload_n (pc := 13) (k0 := 2) (i := 2) rfl 2 rfl (by decide +kernel) ?_
  refine S_gd (fun c4 => ?_)
  refine S_gd (fun c5 => ?_)
  refine s_lald (pc := 14) c4 c5 (by decide +kernel) ?_
  refine s_lmul (pc := 15) (by decide +kernel) ?_
  refine s_ladd (pc := 16) (by decide +kernel) ?_
  refine s_aload_n (pc := 17) (k0 := 1) (i := 1) rfl 1 rfl (by decide +kernel) ?_
  refine s_getR (pc := 18) (k := 4) c1 ft_X1_36 rfl (by decide +kernel) ?_
  refine s_iload_n (pc := 21) (k0 := 2) (i := 2) rfl 2 rfl (by decide +kernel) ?_
  refine S_gd (fun c6 => ?_)
  refine S_gd (fun c7 => ?_)
  refine s_lald (pc := 22) c6 c7 (by decide +kernel) ?_
  refine s_iload_n (pc := 23) (k0 := 3) (i := 3) rfl 3 rfl (by decide +kernel) ?_
  refine s_i2l (pc := 24) (by decide +kernel) ?_
  refine s_lmul (pc := 25) (by decide +kernel) ?_
  refine s_lsub (pc := 26) (by decide +kernel) ?_
  refine s_nmJ (fun v8 => ?_)
  refine s_lstore (pc := 27) (L' := [(5, .long v8), (0, .ref a0), (1, .ref a1), (2, .int a2), (3, .int a3), (4, .int a4)]) (i := 5) (by decide) rfl (by decide +kernel) ?_
  refine s_aload_n (pc := 29) (k0 := 0) (i := 0) rfl 1 rfl (by decide +kernel) ?_
  refine s_aload_n (pc := 30) (k0 := 1) (i := 1) rfl 2 rfl (by decide +kernel) ?_
  refine s_getR (pc := 31) (k := 1) c1 ft_X1_25 rfl (by decide +kernel) ?_
  refine s_iload_n (pc := 34) (k0 := 2) (i := 2) rfl 3 rfl (by decide +kernel) ?_
  refine S_gd (fun c9 => ?_)
  refine S_gd (fun c10 => ?_)
  refine s_iald (pc := 35) c9 c10 (by decide +kernel) ?_
  refine s_iload_n (pc := 36) (k0 := 3) (i := 3) rfl 4 rfl (by decide +kernel) ?_
  refine s_iadd (pc := 37) (by decide +kernel) ?_
  refine s_aload_n (pc := 38) (k0 := 1) (i := 1) rfl 2 rfl (by decide +kernel) ?_
  refine s_getR (pc := 39) (k := 2) c1 ft_X1_29 rfl (by decide +kernel) ?_
  refine s_iload_n (pc := 42) (k0 := 2) (i := 2) rfl 3 rfl (by decide +kernel) ?_
  refine S_gd (fun c11 => ?_)
  refine S_gd (fun c12 => ?_)
  refine s_iald (pc := 43) c11 c12 (by decide +kernel) ?_
  refine s_iload_n (pc := 44) (k0 := 3) (i := 3) rfl 4 rfl (by decide +kernel) ?_
  refine s_iadd (pc := 45) (by decide +kernel) ?_
  refine s_lload (pc := 46) (i := 5) 0 rfl (by decide +kernel) ?_
  refine s_aload_n (pc := 48) (k0 := 1) (i := 1) rfl 2 rfl (by decide +kernel) ?_
  refine s_getR (pc := 49) (k := 4) c1 ft_X1_36 rfl (by decide +kernel) ?_
  refine s_iload_n (pc := 52) (k0 := 2) (i := 2) rfl 3 rfl (by decide +kernel) ?_
  refine s_lald (pc := 53) c6 c7 (by decide +kernel) ?_
  refine s_aload_n (pc := 54) (k0 := 1) (i := 1) rfl 2 rfl (by decide +kernel) ?_
  refine s_getR (pc := 55) (k := 5) c1 ft_X1_39 rfl (by decide +kernel) ?_
  refine s_iload_n (pc := 58) (k0 := 2) (i := 2) rfl 3 rfl (by decide +kernel) ?_
  refine s_lald (pc := 59) c4 c5 (by decide +kernel) ?_
  refine S_gd (fun c13 => ?_)
  refine s_cVv (pc := 60) [.int ((hI h (hR h a1 1) a2.toNatClampNeg) + a3), .int ((hI h (hR h a1 2) a2.toNatClampNeg) + a3), .long v8, .long (hJ h (hR h a1 4) a2.toNatClampNeg), .long (hJ h (hR h a1 5) a2.toNatClampNeg)] (tX1_addLine a0 ((hI h (hR h a1 1) a2.toNatClampNeg) + a3) ((hI h (hR h a1 2) a2.toNatClampNeg) + a3) v8 (hJ h (hR h a1 4) a2.toNatClampNeg) (hJ h (hR h a1 5) a2.toNatClampNeg) h) c13 cw_X1_45 rfl ⟨⟨Nat.le_of_ble_eq_true rfl, Nat.le_of_ble_eq_true rfl⟩, Nat.le_of_ble_eq_true rfl⟩ rfl (by decide +kernel) (fun _ g14 e15 => ?_)
  exact s_vret (pc := 63) rfl (by decide +kernel)
theorem tX1_addMoved (a0 : Nat) (a1 : Nat) (a2 : Int32) (a3 : Int32) (a4 : Int32) (h : xH) : Ct yX1_addMoved kX1_addMoved emV [.ref a0, .ref a1, .int a2, .int a3, .int a4] h (fX1_addMoved a0 a1 a2 a3 a4 h) := Ct_of (by decide +kernel) rfl rfl rfl (Nat.le_of_ble_eq_true rfl) rfl (pX1_addMoved_e a0 a1 a2 a3 a4 h)
def fX1_addMultiple   (a0 : Nat) (a1 : Nat) (a2 : Int32) (a3 : Int32) (h : xH) : Option (Unit × xH) :=
  if kc h a1 = 1 then
  if kc h (hR h a1 1) = 8 then
  if ix a2 (kl h (hR h a1 1)) then
  if kc h (hR h a1 2) = 8 then
  if ix a2 (kl h (hR h a1 2)) then
  if kc h (hR h a1 3) = 9 then
  if ix a2 (kl h (hR h a1 3)) then
  if kc h (hR h a1 4) = 9 then
  if ix a2 (kl h (hR h a1 4)) then
  if kc h (hR h a1 5) = 9 then
  if ix a2 (kl h (hR h a1 5)) then
  if kc h a0 = 1 then
  bd (fX1_addLine a0 (hI h (hR h a1 1) a2.toNatClampNeg) (hI h (hR h a1 2) a2.toNatClampNeg) ((hJ h (hR h a1 3) a2.toNatClampNeg) * a3.toInt64) ((hJ h (hR h a1 4) a2.toNatClampNeg) * a3.toInt64) (hJ h (hR h a1 5) a2.toNatClampNeg) h) (fun _ g13 =>
  some ((), g13))
  else none
  else none
  else none
  else none
  else none
  else none
  else none
  else none
  else none
  else none
  else none
  else none
theorem pX1_addMultiple_e    (a0 : Nat) (a1 : Nat) (a2 : Int32) (a3 : Int32) (h : xH) : S emV kX1_addMultiple h 0 [(0, .ref a0), (1, .ref a1), (2, .int a2), (3, .int a3)] [] h (fX1_addMultiple  a0 a1 a2 a3 h) := by
  unfold fX1_addMultiple
  refine s_aload_n (pc := 0) (k0 := 0) (i := 0) rfl 0 rfl (by decide +kernel) ?_
  refine s_aload_n (pc := 1) (k0 := 1) (i := 1) rfl 1 rfl (by decide +kernel) ?_
  refine S_gd (fun c1 => ?_)
  refine s_getR (pc := 2) (k := 1) c1 ft_X1_25 rfl (by decide +kernel) ?_
  refine s_iload_n (pc := 5) (k0 := 2) (i := 2) rfl 2 rfl (by decide +kernel) ?_
  refine S_gd (fun c2 => ?_)
  refine S_gd (fun c3 => ?_)
  refine s_iald (pc := 6) c2 c3 (by decide +kernel) ?_
  refine s_aload_n (pc := 7) (k0 := 1) (i := 1) rfl 1 rfl (by decide +kernel) ?_
  refine s_getR (pc := 8) (k := 2) c1 ft_X1_29 rfl (by decide +kernel) ?_
  refine s_iload_n (pc := 11) (k0 := 2) (i := 2) rfl 2 rfl (by decide +kernel) ?_
  refine S_gd (fun c4 => ?_)
  refine S_gd (fun c5 => ?_)
  refine s_iald (pc := 12) c4 c5 (by decide +kernel) ?_
  refine s_aload_n (pc := 13) (k0 := 1) (i := 1) rfl 1 rfl (by decide +kernel) ?_
  refine s_getR (pc := 14) (k := 3) c1 ft_X1_32 rfl (by decide +kernel) ?_
  refine s_iload_n (pc := 17) (k0 := 2) (i := 2) rfl 2 rfl (by decide +kernel) ?_
  refine S_gd (fun c6 => ?_)
  refine S_gd (fun c7 => ?_)
  refine s_lald (pc := 18) c6 c7 (by decide +kernel) ?_
  refine s_iload_n (pc := 19) (k0 := 3) (i := 3) rfl 3 rfl (by decide +kernel) ?_
  refine s_i2l (pc := 20) (by decide +kernel) ?_
  refine s_lmul (pc := 21) (by decide +kernel) ?_
  refine s_aload_n (pc := 22) (k0 := 1) (i := 1) rfl 1 rfl (by decide +kernel) ?_
  refine s_getR (pc := 23) (k := 4) c1 ft_X1_36 rfl (by decide +kernel) ?_
  refine s_iload_n (pc := 26) (k0 := 2) (i := 2) rfl 2 rfl (by decide +kernel) ?_
  refine S_gd (fun c8 => ?_)
  refine S_gd (fun c9 => ?_)
  refine s_lald (pc := 27) c8 c9 (by decide +kernel) ?_
  refine s_iload_n (pc := 28) (k0 := 3) (i := 3) rfl 3 rfl (by decide +kernel) ?_
  refine s_i2l (pc := 29) (by decide +kernel) ?_
  refine s_lmul (pc := 30) (by decide +kernel) ?_
  refine s_aload_n (pc := 31) (k0 := 1) (i := 1) rfl 1 rfl (by decide +kernel) ?_
  refine s_getR (pc := 32) (k := 5) c1 ft_X1_39 rfl (by decide +kernel) ?_
  refine s_iload_n (pc := 35) (k0 := 2) (i := 2) rfl 2 rfl (by decide +kernel) ?_
  refine S_gd (fun c10 => ?_)
  refine S_gd (fun c11 => ?_)
  refine s_lald (pc := 36) c10 c11 (by decide +kernel) ?_
  refine S_gd (fun c12 => ?_)
  refine s_cVv (pc := 37) [.int (hI h (hR h a1 1) a2.toNatClampNeg), .int (hI h (hR h a1 2) a2.toNatClampNeg), .long ((hJ h (hR h a1 3) a2.toNatClampNeg) * a3.toInt64), .long ((hJ h (hR h a1 4) a2.toNatClampNeg) * a3.toInt64), .long (hJ h (hR h a1 5) a2.toNatClampNeg)] (tX1_addLine a0 (hI h (hR h a1 1) a2.toNatClampNeg) (hI h (hR h a1 2) a2.toNatClampNeg) ((hJ h (hR h a1 3) a2.toNatClampNeg) * a3.toInt64) ((hJ h (hR h a1 4) a2.toNatClampNeg) * a3.toInt64) (hJ h (hR h a1 5) a2.toNatClampNeg) h) c12 cw_X1_45 rfl ⟨⟨Nat.le_of_ble_eq_true rfl, Nat.le_of_ble_eq_true rfl⟩, Nat.le_of_ble_eq_true rfl⟩ rfl (by decide +kernel) (fun _ g13 e14 => ?_)
  exact s_vret (pc := 40) rfl (by decide +kernel)
theorem tX1_addMultiple (a0 : Nat) (a1 : Nat) (a2 : Int32) (a3 : Int32) (h : xH) : Ct yX1_addMultiple kX1_addMultiple emV [.ref a0, .ref a1, .int a2, .int a3] h (fX1_addMultiple a0 a1 a2 a3 h) := Ct_of (by decide +kernel) rfl rfl rfl (Nat.le_of_ble_eq_true rfl) rfl (pX1_addMultiple_e a0 a1 a2 a3 h)
