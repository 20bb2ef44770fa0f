def fX7_knot_   (a0 : Nat) (a1 : Int32) (a2 : Int32) (a3 : Int32) (h : xH) : Option (Int32 × xH) :=
  if kc h a0 = 7 then
  lt (sI h a0 0 (0 : Int32)) (fun g2 =>
  bd (fX7_isStore a1 g2) (fun w6 g4 =>
  if w6 = 0 then (
  some ((-2147483648 : Int32), g4))
  else (
  bd (fX7_many a0 a1 g4) (fun w10 g8 =>
  bd (fX7_in a2.toInt64 (0 : Int64) (w10.toInt64 - (1 : Int64)) g8) (fun w13 g11 =>
  if w13 = 0 then (
  some ((-2147483648 : Int32), g11))
  else (
  bd (fX7_in a3.toInt64 (0 : Int64) (2 : Int64) g11) (fun w16 g14 =>
  if w16 = 0 then (
  some ((-2147483648 : Int32), g14))
  else (
  if kc g14 (hR g14 a0 3) = 8 then
  if ix (((((37 : Int32) * a1) + (1 : Int32)) + ((3 : Int32) * a2)) + a3) (kl g14 (hR g14 a0 3)) then
  some ((hI g14 (hR g14 a0 3) (((((37 : Int32) * a1) + (1 : Int32)) + ((3 : Int32) * a2)) + a3).toNatClampNeg), g14)
  else none
  else none))))))))
  else none
theorem pX7_knot__e    (a0 : Nat) (a1 : Int32) (a2 : Int32) (a3 : Int32) (h : xH) : S emI kX7_knot_ h 0 [(0, .ref a0), (1, .int a1), (2, .int a2), (3, .int a3)] [] h (fX7_knot_  a0 a1 a2 a3 h) := by
  unfold fX7_knot_
  refine s_aload_n (pc := 0) (k0 := 0) (i := 0) rfl 0 rfl (by decide +kernel) ?_
  refine s_iconst (pc := 1) (n := 0) (v := (0 : Int32)) (by decide) (by decide +kernel) ?_
  refine S_gd (fun c1 => ?_)
  refine s_putI (pc := 2) (k := 0) c1 ft_X7_107 (fw_7_0 _ _) rfl rfl (by decide +kernel) ?_
  refine s_nmH (o := h) rfl (fun g2 e3 => ?_)
  refine s_iload_n (pc := 5) (k0 := 1) (i := 1) rfl 1 rfl (by decide +kernel) ?_
  refine s_cSi (pc := 6) [.int a1] (tX7_isStore a1 g2) cw_X7_247 rfl ⟨⟨Nat.le_of_ble_eq_true rfl, Nat.le_of_ble_eq_true rfl⟩, Nat.le_of_ble_eq_true rfl⟩ rfl (by decide +kernel) (fun w6 g4 e5 => ?_)
  refine s_if_eq (pc := 9) (off := 32) 41 (by decide +kernel) (by decide) (fun _ => ?_) (fun _ => ?_)
  · refine s_ldcw (pc := 41) (v := (-2147483648 : Int32)) (index := 344) (gd_of 1307 (by decide +kernel) rfl) (by decide +kernel) ?_
    exact s_iret (pc := 44) rfl (by decide +kernel)
  · refine s_iload_n (pc := 12) (k0 := 2) (i := 2) rfl 2 rfl (by decide +kernel) ?_
    refine s_i2l (pc := 13) (by decide +kernel) ?_
    refine s_lconst (pc := 14) (n := 0) (v := (0 : Int64)) (by decide) (by decide +kernel) ?_
    refine s_aload_n (pc := 15) (k0 := 0) (i := 0) rfl 0 rfl (by decide +kernel) ?_
    refine s_iload_n (pc := 16) (k0 := 1) (i := 1) rfl 1 rfl (by decide +kernel) ?_
    have c7 := kp (Le.tr e3 e5) c1 (by decide)
    refine s_cVi (pc := 17) [.int a1] (tX7_many a0 a1 g4) c7 cw_X7_168 rfl ⟨⟨Nat.le_of_ble_eq_true rfl, Nat.le_of_ble_eq_true rfl⟩, Nat.le_of_ble_eq_true rfl⟩ rfl (by decide +kernel) (fun w10 g8 e9 => ?_)
    refine s_i2l (pc := 20) (by decide +kernel) ?_
    refine s_lconst (pc := 21) (n := 1) (v := (1 : Int64)) (by decide) (by decide +kernel) ?_
    refine s_lsub (pc := 22) (by decide +kernel) ?_
    refine s_cSi (pc := 23) [.long a2.toInt64, .long (0 : Int64), .long (w10.toInt64 - (1 : Int64))] (tX7_in a2.toInt64 (0 : Int64) (w10.toInt64 - (1 : Int64)) g8) cw_X7_114 rfl ⟨⟨Nat.le_of_ble_eq_true rfl, Nat.le_of_ble_eq_true rfl⟩, Nat.le_of_ble_eq_true rfl⟩ rfl (by decide +kernel) (fun w13 g11 e12 => ?_)
    refine s_if_eq (pc := 26) (off := 15) 41 (by decide +kernel) (by decide) (fun _ => ?_) (fun _ => ?_)
    · refine s_ldcw (pc := 41) (v := (-2147483648 : Int32)) (index := 344) (gd_of 1307 (by decide +kernel) rfl) (by decide +kernel) ?_
      exact s_iret (pc := 44) rfl (by decide +kernel)
    · refine s_iload_n (pc := 29) (k0 := 3) (i := 3) rfl 3 rfl (by decide +kernel) ?_
      refine s_i2l (pc := 30) (by decide +kernel) ?_
      refine s_lconst (pc := 31) (n := 0) (v := (0 : Int64)) (by decide) (by decide +kernel) ?_
      refine s_ldc2 (pc := 32) (v := (2 : Int64)) (index := 340) (gd_of 1306 (by decide +kernel) rfl) (by decide +kernel) ?_
      refine s_cSi (pc := 35) [.long a3.toInt64, .long (0 : Int64), .long (2 : Int64)] (tX7_in a3.toInt64 (0 : Int64) (2 : Int64) g11) cw_X7_114 rfl ⟨⟨Nat.le_of_ble_eq_true rfl, Nat.le_of_ble_eq_true rfl⟩, Nat.le_of_ble_eq_true rfl⟩ rfl (by decide +kernel) (fun w16 g14 e15 => ?_)
      refine s_if_ne (pc := 38) (off := 7) 45 (by decide +kernel) (by decide) (fun _ => ?_) (fun _ => ?_)
      · refine s_ldcw (pc := 41) (v := (-2147483648 : Int32)) (index := 344) (gd_of 1307 (by decide +kernel) rfl) (by decide +kernel) ?_
        exact s_iret (pc := 44) rfl (by decide +kernel)
      · refine s_aload_n (pc := 45) (k0 := 0) (i := 0) rfl 0 rfl (by decide +kernel) ?_
        have c17 := kp (Le.tr e9 (Le.tr e12 e15)) c7 (by decide)
        refine s_getR (pc := 46) (k := 3) c17 ft_X7_15 rfl (by decide +kernel) ?_
        refine s_bipush (pc := 49) (n := 37) (v := (37 : Int32)) (by decide) (by decide +kernel) ?_
        refine s_iload_n (pc := 51) (k0 := 1) (i := 1) rfl 1 rfl (by decide +kernel) ?_
        refine s_imul (pc := 52) (by decide +kernel) ?_
        refine s_iconst (pc := 53) (n := 1) (v := (1 : Int32)) (by decide) (by decide +kernel) ?_
        refine s_iadd (pc := 54) (by decide +kernel) ?_
        refine s_iconst (pc := 55) (n := 3) (v := (3 : Int32)) (by decide) (by decide +kernel) ?_
        refine s_iload_n (pc := 56) (k0 := 2) (i := 2) rfl 2 rfl (by decide +kernel) ?_
        refine s_imul (pc := 57) (by decide +kernel) ?_
        refine s_iadd (pc := 58) (by decide +kernel) ?_
        refine s_iload_n (pc := 59) (k0 := 3) (i := 3) rfl 3 rfl (by decide +kernel) ?_
        refine s_iadd (pc := 60) (by decide +kernel) ?_
        refine S_gd (fun c18 => ?_)
        refine S_gd (fun c19 => ?_)
        refine s_iald (pc := 61) c18 c19 (by decide +kernel) ?_
        exact s_iret (pc := 62) rfl (by decide +kernel)
theorem tX7_knot_ (a0 : Nat) (a1 : Int32) (a2 : Int32) (a3 : Int32) (h : xH) : Ct yX7_knot_ kX7_knot_ emI [.ref a0, .int a1, .int a2, .int a3] h (fX7_knot_ a0 a1 a2 a3 h) := Ct_of (by decide +kernel) rfl rfl rfl (Nat.le_of_ble_eq_true rfl) rfl (pX7_knot__e a0 a1 a2 a3 h)
def fX7_hasValue_b53   (a3 : Int32) (h : xH) : Option (Int32 × xH) :=
  if a3 = (-1 : Int32) then (
  some ((0 : Int32), h))
  else (
  some ((1 : Int32), h))
def fX7_hasValue   (a0 : Nat) (a1 : Int32) (a2 : Int32) (h : xH) : Option (Int32 × xH) :=
  if kc h a0 = 7 then
  lt (sI h a0 19 (0 : Int32)) (fun g2 =>
  bd (fX7_linesOf a0 a1 g2) (fun _ g5 =>
  bd (fX7_leastAt a0 a2.toInt64 (1 : Int64) g5) (fun w10 g8 =>
  if w10 = (-1 : Int32) then (
  fX7_hasValue_b53 w10 g8)
  else (
  if kc g8 (hR g8 a0 22) = 9 then
  if ix w10 (kl g8 (hR g8 a0 22)) then
  if kc g8 (hR g8 a0 23) = 9 then
  if ix w10 (kl g8 (hR g8 a0 23)) then
  lt (sJ g8 a0 45 ((hJ g8 (hR g8 a0 22) w10.toNatClampNeg) + ((hJ g8 (hR g8 a0 23) w10.toNatClampNeg) * a2.toInt64))) (fun g16 =>
  if kc g16 (hR g16 a0 24) = 9 then
  if ix w10 (kl g16 (hR g16 a0 24)) then
  lt (sJ g16 a0 46 (hJ g16 (hR g16 a0 24) w10.toNatClampNeg)) (fun g21 =>
  fX7_hasValue_b53 w10 g21)
  else none
  else none)
  else none
  else none
  else none
  else none))))
  else none
theorem pX7_hasValue_b53 {h0 : xH}    (a3 : Int32) (h : xH) : S emI kX7_hasValue h0 53 [(3, .int a3)] [] h (fX7_hasValue_b53  a3 h) := by
  unfold fX7_hasValue_b53
  refine s_iload_n (pc := 53) (k0 := 3) (i := 3) rfl 0 rfl (by decide +kernel) ?_
  refine s_iconst (pc := 54) (n := -1) (v := (-1 : Int32)) (by decide) (by decide +kernel) ?_
  refine s_icmp_eq (pc := 55) (off := 7) 62 (by decide +kernel) (by decide) (fun _ => ?_) (fun _ => ?_)
  · refine s_iconst (pc := 62) (n := 0) (v := (0 : Int32)) (by decide) (by decide +kernel) ?_
    exact s_zret (pc := 63) (by decide) rfl (by decide +kernel)
  · refine s_iconst (pc := 58) (n := 1) (v := (1 : Int32)) (by decide) (by decide +kernel) ?_
    refine s_goto (pc := 59) (off := 4) 63 (by decide +kernel) (by decide) ?_
    exact s_zret (pc := 63) (by decide) rfl (by decide +kernel)
theorem pX7_hasValue_e    (a0 : Nat) (a1 : Int32) (a2 : Int32) (h : xH) : S emI kX7_hasValue h 0 [(0, .ref a0), (1, .int a1), (2, .int a2)] [] h (fX7_hasValue  a0 a1 a2 h) := by
  unfold fX7_hasValue
  refine s_aload_n (pc := 0) (k0 := 0) (i := 0) rfl 0 rfl (by decide +kernel) ?_
  refine s_iconst (pc := 1) (n := 0) (v := (0 : Int32)) (by decide) (by decide +kernel) ?_
  refine S_gd (fun c1 => ?_)
  refine s_putI (pc := 2) (k := 19) c1 ft_X7_158 (fw_7_19 _ _) rfl rfl (by decide +kernel) ?_
  refine s_nmH (o := h) rfl (fun g2 e3 => ?_)
  refine s_aload_n (pc := 5) (k0 := 0) (i := 0) rfl 0 rfl (by decide +kernel) ?_
  refine s_iload_n (pc := 6) (k0 := 1) (i := 1) rfl 1 rfl (by decide +kernel) ?_
  have c4 := kp e3 c1 (by decide)
  refine s_cVv (pc := 7) [.int a1] (tX7_linesOf a0 a1 g2) c4 cw_X7_251 rfl ⟨⟨Nat.le_of_ble_eq_true rfl, Nat.le_of_ble_eq_true rfl⟩, Nat.le_of_ble_eq_true rfl⟩ rfl (by decide +kernel) (fun _ g5 e6 => ?_)
  refine s_aload_n (pc := 10) (k0 := 0) (i := 0) rfl 0 rfl (by decide +kernel) ?_
  refine s_iload_n (pc := 11) (k0 := 2) (i := 2) rfl 2 rfl (by decide +kernel) ?_
  refine s_i2l (pc := 12) (by decide +kernel) ?_
  refine s_lconst (pc := 13) (n := 1) (v := (1 : Int64)) (by decide) (by decide +kernel) ?_
  have c7 := kp e6 c4 (by decide)
  refine s_cVi (pc := 14) [.long a2.toInt64, .long (1 : Int64)] (tX7_leastAt a0 a2.toInt64 (1 : Int64) g5) c7 cw_X7_233 rfl ⟨⟨Nat.le_of_ble_eq_true rfl, Nat.le_of_ble_eq_true rfl⟩, Nat.le_of_ble_eq_true rfl⟩ rfl (by decide +kernel) (fun w10 g8 e9 => ?_)
  refine s_istore_n (pc := 17) (L' := [(3, .int w10), (0, .ref a0), (1, .int a1), (2, .int a2)]) (k0 := 3) (i := 3) rfl (by decide) rfl (by decide +kernel) ?_
  refine s_iload_n (pc := 18) (k0 := 3) (i := 3) rfl 0 rfl (by decide +kernel) ?_
  refine s_iconst (pc := 19) (n := -1) (v := (-1 : Int32)) (by decide) (by decide +kernel) ?_
  refine s_icmp_eq (pc := 20) (off := 33) 53 (by decide +kernel) (by decide) (fun _ => ?_) (fun _ => ?_)
  · refine S_sub [0] rfl ?_
    exact pX7_hasValue_b53 w10 g8
  · refine s_aload_n (pc := 23) (k0 := 0) (i := 0) rfl 1 rfl (by decide +kernel) ?_
    refine s_aload_n (pc := 24) (k0 := 0) (i := 0) rfl 1 rfl (by decide +kernel) ?_
    have c11 := kp e9 c7 (by decide)
    refine s_getR (pc := 25) (k := 22) c11 ft_X7_63 rfl (by decide +kernel) ?_
    refine s_iload_n (pc := 28) (k0 := 3) (i := 3) rfl 0 rfl (by decide +kernel) ?_
    refine S_gd (fun c12 => ?_)
    refine S_gd (fun c13 => ?_)
    refine s_lald (pc := 29) c12 c13 (by decide +kernel) ?_
    refine s_aload_n (pc := 30) (k0 := 0) (i := 0) rfl 1 rfl (by decide +kernel) ?_
    refine s_getR (pc := 31) (k := 23) c11 ft_X7_66 rfl (by decide +kernel) ?_
    refine s_iload_n (pc := 34) (k0 := 3) (i := 3) rfl 0 rfl (by decide +kernel) ?_
    refine S_gd (fun c14 => ?_)
    refine S_gd (fun c15 => ?_)
    refine s_lald (pc := 35) c14 c15 (by decide +kernel) ?_
    refine s_iload_n (pc := 36) (k0 := 2) (i := 2) rfl 3 rfl (by decide +kernel) ?_
    refine s_i2l (pc := 37) (by decide +kernel) ?_
    refine s_lmul (pc := 38) (by decide +kernel) ?_
    refine s_ladd (pc := 39) (by decide +kernel) ?_
    refine s_putJ (pc := 40) (k := 45) c11 ft_X7_345 (fw_7_45 _ _) rfl rfl (by decide +kernel) ?_
    refine s_nmH (o := g8) rfl (fun g16 e17 => ?_)
    refine s_aload_n (pc := 43) (k0 := 0) (i := 0) rfl 1 rfl (by decide +kernel) ?_
    refine s_aload_n (pc := 44) (k0 := 0) (i := 0) rfl 1 rfl (by decide +kernel) ?_
    have c18 := kp e17 c11 (by decide)
    refine s_getR (pc := 45) (k := 24) c18 ft_X7_69 rfl (by decide +kernel) ?_
    refine s_iload_n (pc := 48) (k0 := 3) (i := 3) rfl 0 rfl (by decide +kernel) ?_
    refine S_gd (fun c19 => ?_)
    refine S_gd (fun c20 => ?_)
    refine s_lald (pc := 49) c19 c20 (by decide +kernel) ?_
    refine s_putJ (pc := 50) (k := 46) c18 ft_X7_349 (fw_7_46 _ _) rfl rfl (by decide +kernel) ?_
    refine s_nmH (o := g16) rfl (fun g21 e22 => ?_)
    refine S_sub [0] rfl ?_
    exact pX7_hasValue_b53 w10 g21
theorem tX7_hasValue (a0 : Nat) (a1 : Int32) (a2 : Int32) (h : xH) : Ct yX7_hasValue kX7_hasValue emI [.ref a0, .int a1, .int a2] h (fX7_hasValue a0 a1 a2 h) := Ct_of (by decide +kernel) rfl rfl rfl (Nat.le_of_ble_eq_true rfl) rfl (pX7_hasValue_e a0 a1 a2 h)
def fX7_value   (a0 : Nat) (a1 : Int32) (a2 : Int32) (a3 : Int32) (h : xH) : Option (Int64 × xH) :=
  if kc h a0 = 7 then
  lt (sI h a0 0 (0 : Int32)) (fun g2 =>
  bd (fX7_isStore a1 g2) (fun w6 g4 =>
  if w6 = 0 then (
  some ((-9223372036854775808 : Int64), g4))
  else (
  bd (fX7_isPlace a2.toInt64 g4) (fun w9 g7 =>
  if w9 = 0 then (
  some ((-9223372036854775808 : Int64), g7))
  else (
  bd (fX7_in a3.toInt64 (0 : Int64) (1 : Int64) g7) (fun w12 g10 =>
  if w12 = 0 then (
  some ((-9223372036854775808 : Int64), g10))
  else (
  bd (fX7_hasValue a0 a1 a2 g10) (fun w16 g14 =>
  if w16 = 0 then (
  some ((-9223372036854775808 : Int64), g14))
  else (
  bd (fX7_part (hJ g14 a0 45) ((60 : Int64) * (hJ g14 a0 46)) a3 g14) (fun w20 g18 =>
  some (w20, g18)))))))))))
  else none
theorem pX7_value_e    (a0 : Nat) (a1 : Int32) (a2 : Int32) (a3 : Int32) (h : xH) : S emJ kX7_value h 0 [(0, .ref a0), (1, .int a1), (2, .int a2), (3, .int a3)] [] h (fX7_value  a0 a1 a2 a3 h) := by
  unfold fX7_value
  refine s_aload_n (pc := 0) (k0 := 0) (i := 0) rfl 0 rfl (by decide +kernel) ?_
  refine s_iconst (pc := 1) (n := 0) (v := (0 : Int32)) (by decide) (by decide +kernel) ?_
  refine S_gd (fun c1 => ?_)
  refine s_putI (pc := 2) (k := 0) c1 ft_X7_107 (fw_7_0 _ _) rfl rfl (by decide +kernel) ?_
  refine s_nmH (o := h) rfl (fun g2 e3 => ?_)
  refine s_iload_n (pc := 5) (k0 := 1) (i := 1) rfl 1 rfl (by decide +kernel) ?_
  refine s_cSi (pc := 6) [.int a1] (tX7_isStore a1 g2) cw_X7_247 rfl ⟨⟨Nat.le_of_ble_eq_true rfl, Nat.le_of_ble_eq_true rfl⟩, Nat.le_of_ble_eq_true rfl⟩ rfl (by decide +kernel) (fun w6 g4 e5 => ?_)
  refine s_if_eq (pc := 9) (off := 49) 58 (by decide +kernel) (by decide) (fun _ => ?_) (fun _ => ?_)
  · refine s_ldc2 (pc := 58) (v := (-9223372036854775808 : Int64)) (index := 334) (gd_of 1298 (by decide +kernel) rfl) (by decide +kernel) ?_
    exact s_lret (pc := 61) rfl (by decide +kernel)
  · refine s_iload_n (pc := 12) (k0 := 2) (i := 2) rfl 2 rfl (by decide +kernel) ?_
    refine s_i2l (pc := 13) (by decide +kernel) ?_
    refine s_cSi (pc := 14) [.long a2.toInt64] (tX7_isPlace a2.toInt64 g4) cw_X7_270 rfl ⟨⟨Nat.le_of_ble_eq_true rfl, Nat.le_of_ble_eq_true rfl⟩, Nat.le_of_ble_eq_true rfl⟩ rfl (by decide +kernel) (fun w9 g7 e8 => ?_)
    refine s_if_eq (pc := 17) (off := 41) 58 (by decide +kernel) (by decide) (fun _ => ?_) (fun _ => ?_)
    · refine s_ldc2 (pc := 58) (v := (-9223372036854775808 : Int64)) (index := 334) (gd_of 1298 (by decide +kernel) rfl) (by decide +kernel) ?_
      exact s_lret (pc := 61) rfl (by decide +kernel)
    · refine s_iload_n (pc := 20) (k0 := 3) (i := 3) rfl 3 rfl (by decide +kernel) ?_
      refine s_i2l (pc := 21) (by decide +kernel) ?_
      refine s_lconst (pc := 22) (n := 0) (v := (0 : Int64)) (by decide) (by decide +kernel) ?_
      refine s_lconst (pc := 23) (n := 1) (v := (1 : Int64)) (by decide) (by decide +kernel) ?_
      refine s_cSi (pc := 24) [.long a3.toInt64, .long (0 : Int64), .long (1 : Int64)] (tX7_in a3.toInt64 (0 : Int64) (1 : Int64) g7) cw_X7_114 rfl ⟨⟨Nat.le_of_ble_eq_true rfl, Nat.le_of_ble_eq_true rfl⟩, Nat.le_of_ble_eq_true rfl⟩ rfl (by decide +kernel) (fun w12 g10 e11 => ?_)
      refine s_if_eq (pc := 27) (off := 31) 58 (by decide +kernel) (by decide) (fun _ => ?_) (fun _ => ?_)
      · refine s_ldc2 (pc := 58) (v := (-9223372036854775808 : Int64)) (index := 334) (gd_of 1298 (by decide +kernel) rfl) (by decide +kernel) ?_
        exact s_lret (pc := 61) rfl (by decide +kernel)
      · refine s_aload_n (pc := 30) (k0 := 0) (i := 0) rfl 0 rfl (by decide +kernel) ?_
        refine s_iload_n (pc := 31) (k0 := 1) (i := 1) rfl 1 rfl (by decide +kernel) ?_
        refine s_iload_n (pc := 32) (k0 := 2) (i := 2) rfl 2 rfl (by decide +kernel) ?_
        have c13 := kp (Le.tr e3 (Le.tr e5 (Le.tr e8 e11))) c1 (by decide)
        refine s_cVi (pc := 33) [.int a1, .int a2] (tX7_hasValue a0 a1 a2 g10) c13 cw_X7_352 rfl ⟨⟨Nat.le_of_ble_eq_true rfl, Nat.le_of_ble_eq_true rfl⟩, Nat.le_of_ble_eq_true rfl⟩ rfl (by decide +kernel) (fun w16 g14 e15 => ?_)
        refine s_if_eq (pc := 36) (off := 22) 58 (by decide +kernel) (by decide) (fun _ => ?_) (fun _ => ?_)
        · refine s_ldc2 (pc := 58) (v := (-9223372036854775808 : Int64)) (index := 334) (gd_of 1298 (by decide +kernel) rfl) (by decide +kernel) ?_
          exact s_lret (pc := 61) rfl (by decide +kernel)
        · refine s_aload_n (pc := 39) (k0 := 0) (i := 0) rfl 0 rfl (by decide +kernel) ?_
          have c17 := kp e15 c13 (by decide)
          refine s_getJ (pc := 40) (k := 45) c17 ft_X7_345 rfl (by decide +kernel) ?_
          refine s_ldc2 (pc := 43) (v := (60 : Int64)) (index := 274) (gd_of 1214 (by decide +kernel) rfl) (by decide +kernel) ?_
          refine s_aload_n (pc := 46) (k0 := 0) (i := 0) rfl 0 rfl (by decide +kernel) ?_
          refine s_getJ (pc := 47) (k := 46) c17 ft_X7_349 rfl (by decide +kernel) ?_
          refine s_lmul (pc := 50) (by decide +kernel) ?_
          refine s_iload_n (pc := 51) (k0 := 3) (i := 3) rfl 3 rfl (by decide +kernel) ?_
          refine s_cSj (pc := 52) [.long (hJ g14 a0 45), .long ((60 : Int64) * (hJ g14 a0 46)), .int a3] (tX7_part (hJ g14 a0 45) ((60 : Int64) * (hJ g14 a0 46)) a3 g14) cw_X7_336 rfl ⟨⟨Nat.le_of_ble_eq_true rfl, Nat.le_of_ble_eq_true rfl⟩, Nat.le_of_ble_eq_true rfl⟩ rfl (by decide +kernel) (fun w20 g18 e19 => ?_)
          refine s_goto (pc := 55) (off := 6) 61 (by decide +kernel) (by decide) ?_
          exact s_lret (pc := 61) rfl (by decide +kernel)
theorem tX7_value (a0 : Nat) (a1 : Int32) (a2 : Int32) (a3 : Int32) (h : xH) : Ct yX7_value kX7_value emJ [.ref a0, .int a1, .int a2, .int a3] h (fX7_value a0 a1 a2 a3 h) := Ct_of (by decide +kernel) rfl rfl rfl (Nat.le_of_ble_eq_true rfl) rfl (pX7_value_e a0 a1 a2 a3 h)
def fX7_bits   (a0 : Nat) (a1 : Int32) (a2 : Int32) (h : xH) : Option (Int32 × xH) :=
  if kc h a0 = 7 then
  lt (sI h a0 0 (0 : Int32)) (fun g2 =>
  bd (fX7_isStore a1 g2) (fun w6 g4 =>
  if w6 = 0 then (
  some ((0 : Int32), g4))
  else (
  bd (fX7_isPlace a2.toInt64 g4) (fun w9 g7 =>
  if w9 = 0 then (
  some ((0 : Int32), g7))
  else (
  bd (fX7_hasValue a0 a1 a2 g7) (fun w13 g11 =>
  if w13 = 0 then (
  some ((0 : Int32), g11))
  else (
  bd (fX7_part (hJ g11 a0 45) ((60 : Int64) * (hJ g11 a0 46)) (0 : Int32) g11) (fun w17 g15 =>
  lt (FP.l2f w17) (fun v18 =>
  bd (fX7_part (hJ g15 a0 45) ((60 : Int64) * (hJ g15 a0 46)) (1 : Int32) g15) (fun w22 g20 =>
  lt (FP.l2f w22) (fun v23 =>
  if FP.fdiv v18 v23 &&& 0x7fffffff ≤ 0x7f800000 then
  bd (fJxf58ca_floatToIntBits_5c35a (FP.fdiv v18 v23) g20) (fun w26 g24 =>
  some (w26, g24))
  else none)))))))))))
  else none
theorem pX7_bits_e    (a0 : Nat) (a1 : Int32) (a2 : Int32) (h : xH) : S emI kX7_bits h 0 [(0, .ref a0), (1, .int a1), (2, .int a2)] [] h (fX7_bits  a0 a1 a2 h) := by
  unfold fX7_bits
  refine s_aload_n (pc := 0) (k0 := 0) (i := 0) rfl 0 rfl (by decide +kernel) ?_
  refine s_iconst (pc := 1) (n := 0) (v := (0 : Int32)) (by decide) (by decide +kernel) ?_
  refine S_gd (fun c1 => ?_)
  refine s_putI (pc := 2) (k := 0) c1 ft_X7_107 (fw_7_0 _ _) rfl rfl (by decide +kernel) ?_
  refine s_nmH (o := h) rfl (fun g2 e3 => ?_)
  refine s_iload_n (pc := 5) (k0 := 1) (i := 1) rfl 1 rfl (by decide +kernel) ?_
  refine s_cSi (pc := 6) [.int a1] (tX7_isStore a1 g2) cw_X7_247 rfl ⟨⟨Nat.le_of_ble_eq_true rfl, Nat.le_of_ble_eq_true rfl⟩, Nat.le_of_ble_eq_true rfl⟩ rfl (by decide +kernel) (fun w6 g4 e5 => ?_)
  refine s_if_eq (pc := 9) (off := 20) 29 (by decide +kernel) (by decide) (fun _ => ?_) (fun _ => ?_)
  · refine s_iconst (pc := 29) (n := 0) (v := (0 : Int32)) (by decide) (by decide +kernel) ?_
    exact s_iret (pc := 30) rfl (by decide +kernel)
  · refine s_iload_n (pc := 12) (k0 := 2) (i := 2) rfl 2 rfl (by decide +kernel) ?_
    refine s_i2l (pc := 13) (by decide +kernel) ?_
    refine s_cSi (pc := 14) [.long a2.toInt64] (tX7_isPlace a2.toInt64 g4) cw_X7_270 rfl ⟨⟨Nat.le_of_ble_eq_true rfl, Nat.le_of_ble_eq_true rfl⟩, Nat.le_of_ble_eq_true rfl⟩ rfl (by decide +kernel) (fun w9 g7 e8 => ?_)
    refine s_if_eq (pc := 17) (off := 12) 29 (by decide +kernel) (by decide) (fun _ => ?_) (fun _ => ?_)
    · refine s_iconst (pc := 29) (n := 0) (v := (0 : Int32)) (by decide) (by decide +kernel) ?_
      exact s_iret (pc := 30) rfl (by decide +kernel)
    · refine s_aload_n (pc := 20) (k0 := 0) (i := 0) rfl 0 rfl (by decide +kernel) ?_
      refine s_iload_n (pc := 21) (k0 := 1) (i := 1) rfl 1 rfl (by decide +kernel) ?_
      refine s_iload_n (pc := 22) (k0 := 2) (i := 2) rfl 2 rfl (by decide +kernel) ?_
      have c10 := kp (Le.tr e3 (Le.tr e5 e8)) c1 (by decide)
      refine s_cVi (pc := 23) [.int a1, .int a2] (tX7_hasValue a0 a1 a2 g7) c10 cw_X7_352 rfl ⟨⟨Nat.le_of_ble_eq_true rfl, Nat.le_of_ble_eq_true rfl⟩, Nat.le_of_ble_eq_true rfl⟩ rfl (by decide +kernel) (fun w13 g11 e12 => ?_)
      refine s_if_ne (pc := 26) (off := 5) 31 (by decide +kernel) (by decide) (fun _ => ?_) (fun _ => ?_)
      · refine s_iconst (pc := 29) (n := 0) (v := (0 : Int32)) (by decide) (by decide +kernel) ?_
        exact s_iret (pc := 30) rfl (by decide +kernel)
      · refine s_aload_n (pc := 31) (k0 := 0) (i := 0) rfl 0 rfl (by decide +kernel) ?_
        have c14 := kp e12 c10 (by decide)
        refine s_getJ (pc := 32) (k := 45) c14 ft_X7_345 rfl (by decide +kernel) ?_
        refine s_ldc2 (pc := 35) (v := (60 : Int64)) (index := 274) (gd_of 1214 (by decide +kernel) rfl) (by decide +kernel) ?_
        refine s_aload_n (pc := 38) (k0 := 0) (i := 0) rfl 0 rfl (by decide +kernel) ?_
        refine s_getJ (pc := 39) (k := 46) c14 ft_X7_349 rfl (by decide +kernel) ?_
        refine s_lmul (pc := 42) (by decide +kernel) ?_
        refine s_iconst (pc := 43) (n := 0) (v := (0 : Int32)) (by decide) (by decide +kernel) ?_
        refine s_cSj (pc := 44) [.long (hJ g11 a0 45), .long ((60 : Int64) * (hJ g11 a0 46)), .int (0 : Int32)] (tX7_part (hJ g11 a0 45) ((60 : Int64) * (hJ g11 a0 46)) (0 : Int32) g11) cw_X7_336 rfl ⟨⟨Nat.le_of_ble_eq_true rfl, Nat.le_of_ble_eq_true rfl⟩, Nat.le_of_ble_eq_true rfl⟩ rfl (by decide +kernel) (fun w17 g15 e16 => ?_)
        refine s_l2f (pc := 47) (by decide +kernel) ?_
        refine s_nmF (fun v18 => ?_)
        refine s_fstore_n (pc := 48) (L' := [(3, .float v18), (0, .ref a0), (1, .int a1), (2, .int a2)]) (k0 := 3) (i := 3) rfl (by decide) rfl (by decide +kernel) ?_
        refine s_aload_n (pc := 49) (k0 := 0) (i := 0) rfl 1 rfl (by decide +kernel) ?_
        have c19 := kp e16 c14 (by decide)
        refine s_getJ (pc := 50) (k := 45) c19 ft_X7_345 rfl (by decide +kernel) ?_
        refine s_ldc2 (pc := 53) (v := (60 : Int64)) (index := 274) (gd_of 1214 (by decide +kernel) rfl) (by decide +kernel) ?_
        refine s_aload_n (pc := 56) (k0 := 0) (i := 0) rfl 1 rfl (by decide +kernel) ?_
        refine s_getJ (pc := 57) (k := 46) c19 ft_X7_349 rfl (by decide +kernel) ?_
        refine s_lmul (pc := 60) (by decide +kernel) ?_
        refine s_iconst (pc := 61) (n := 1) (v := (1 : Int32)) (by decide) (by decide +kernel) ?_
        refine s_cSj (pc := 62) [.long (hJ g15 a0 45), .long ((60 : Int64) * (hJ g15 a0 46)), .int (1 : Int32)] (tX7_part (hJ g15 a0 45) ((60 : Int64) * (hJ g15 a0 46)) (1 : Int32) g15) cw_X7_336 rfl ⟨⟨Nat.le_of_ble_eq_true rfl, Nat.le_of_ble_eq_true rfl⟩, Nat.le_of_ble_eq_true rfl⟩ rfl (by decide +kernel) (fun w22 g20 e21 => ?_)
        refine s_l2f (pc := 65) (by decide +kernel) ?_
        refine s_nmF (fun v23 => ?_)
        refine s_fstore (pc := 66) (L' := [(4, .float v23), (3, .float v18), (0, .ref a0), (1, .int a1), (2, .int a2)]) (i := 4) (by decide) rfl (by decide +kernel) ?_
        refine s_fload_n (pc := 68) (k0 := 3) (i := 3) rfl 1 rfl (by decide +kernel) ?_
        refine s_fload (pc := 69) (i := 4) 0 rfl (by decide +kernel) ?_
        refine s_fdiv (pc := 71) (by decide +kernel) ?_
        refine s_cSi (pc := 72) [.float (FP.fdiv v18 v23)] (tJxf58ca_floatToIntBits_5c35a (FP.fdiv v18 v23) g20) cw_X7_355 rfl ⟨⟨Nat.le_of_ble_eq_true rfl, Nat.le_of_ble_eq_true rfl⟩, Nat.le_of_ble_eq_true rfl⟩ rfl (by decide +kernel) (fun w26 g24 e25 => ?_)
        exact s_iret (pc := 75) rfl (by decide +kernel)
theorem tX7_bits (a0 : Nat) (a1 : Int32) (a2 : Int32) (h : xH) : Ct yX7_bits kX7_bits emI [.ref a0, .int a1, .int a2] h (fX7_bits a0 a1 a2 h) := Ct_of (by decide +kernel) rfl rfl rfl (Nat.le_of_ble_eq_true rfl) rfl (pX7_bits_e a0 a1 a2 h)
def fX7_limit_b186 (r49 : Nat → Int32 → Int32 → Int32 → xH → Option (Int64 × xH))  (a0 : Nat) (a2 : Int32) (a3 : Int32) (a4 : Int32) (h : xH) : Option (Int64 × xH) :=
  lt (a4 + (1 : Int32)) (fun v1 =>
  r49 a0 a2 a3 v1 h)
def fX7_limit_b140 (r49 : Nat → Int32 → Int32 → Int32 → xH → Option (Int64 × xH)) (s0 : Int32) (a0 : Nat) (a2 : Int32) (a3 : Int32) (a4 : Int32) (a5 : Int32) (h : xH) : Option (Int64 × xH) :=
  if a5 = 0 then (
  fX7_limit_b186 r49 a0 a2 a3 a4 h)
  else (
  if s0 = 0 then (
  fX7_limit_b186 r49 a0 a2 a3 a4 h)
  else (
  if kc h a0 = 7 then
  if kc h (hR h a0 22) = 9 then
  if ix a4 (kl h (hR h a0 22)) then
  if kc h (hR h a0 23) = 9 then
  if ix a4 (kl h (hR h a0 23)) then
  if kc h (hR h a0 24) = 9 then
  if ix a4 (kl h (hR h a0 24)) then
  bd (fX7_part ((hJ h (hR h a0 22) a4.toNatClampNeg) + ((hJ h (hR h a0 23) a4.toNatClampNeg) * a2.toInt64)) ((60 : Int64) * (hJ h (hR h a0 24) a4.toNatClampNeg)) a3 h) (fun w10 g8 =>
  some (w10, g8))
  else none
  else none
  else none
  else none
  else none
  else none
  else none))
def fX7_limit_b98 (r49 : Nat → Int32 → Int32 → Int32 → xH → Option (Int64 × xH)) (s0 : Int32) (a0 : Nat) (a2 : Int32) (a3 : Int32) (a4 : Int32) (h : xH) : Option (Int64 × xH) :=
  if (2 : Int32) ≤ a3 then (
  if kc h a0 = 7 then
  if kc h (hR h a0 21) = 8 then
  if ix a4 (kl h (hR h a0 21)) then
  if (hI h (hR h a0 21) a4.toNatClampNeg) ≤ a2 then (
  fX7_limit_b140 r49 (0 : Int32) a0 a2 a3 a4 s0 h)
  else (
  fX7_limit_b140 r49 (1 : Int32) a0 a2 a3 a4 s0 h)
  else none
  else none
  else none)
  else (
  if kc h a0 = 7 then
  if kc h (hR h a0 21) = 8 then
  if ix a4 (kl h (hR h a0 21)) then
  if (hI h (hR h a0 21) a4.toNatClampNeg) < a2 then (
  fX7_limit_b140 r49 (0 : Int32) a0 a2 a3 a4 s0 h)
  else (
  fX7_limit_b140 r49 (1 : Int32) a0 a2 a3 a4 s0 h)
  else none
  else none
  else none)
def fX7_limit_b49 (r49 : Nat → Int32 → Int32 → Int32 → xH → Option (Int64 × xH))  (a0 : Nat) (a2 : Int32) (a3 : Int32) (a4 : Int32) (h : xH) : Option (Int64 × xH) :=
  if kc h a0 = 7 then
  if (hI h a0 19) ≤ a4 then (
  some ((-9223372036854775808 : Int64), h))
  else (
  if (2 : Int32) ≤ a3 then (
  if kc h (hR h a0 20) = 8 then
  if ix a4 (kl h (hR h a0 20)) then
  if a2 < (hI h (hR h a0 20) a4.toNatClampNeg) then (
  fX7_limit_b98 r49 (0 : Int32) a0 a2 a3 a4 h)
  else (
  fX7_limit_b98 r49 (1 : Int32) a0 a2 a3 a4 h)
  else none
  else none)
  else (
  if kc h (hR h a0 20) = 8 then
  if ix a4 (kl h (hR h a0 20)) then
  if a2 ≤ (hI h (hR h a0 20) a4.toNatClampNeg) then (
  fX7_limit_b98 r49 (0 : Int32) a0 a2 a3 a4 h)
  else (
  fX7_limit_b98 r49 (1 : Int32) a0 a2 a3 a4 h)
  else none
  else none))
  else none
def fX7_limit_l49  : Nat → Nat → Int32 → Int32 → Int32 → xH → Option (Int64 × xH)
  | 0 => fun _ _ _ _ _ => none
  | k + 1 => fX7_limit_b49 (fX7_limit_l49  k)
def fX7_limit   (a0 : Nat) (a1 : Int32) (a2 : Int32) (a3 : Int32) (h : xH) : Option (Int64 × xH) :=
  if kc h a0 = 7 then
  lt (sI h a0 0 (0 : Int32)) (fun g2 =>
  bd (fX7_isStore a1 g2) (fun w6 g4 =>
  if w6 = 0 then (
  some ((-9223372036854775808 : Int64), g4))
  else (
  bd (fX7_isPlace a2.toInt64 g4) (fun w9 g7 =>
  if w9 = 0 then (
  some ((-9223372036854775808 : Int64), g7))
  else (
  bd (fX7_in a3.toInt64 (0 : Int64) (3 : Int64) g7) (fun w12 g10 =>
  if w12 = 0 then (
  some ((-9223372036854775808 : Int64), g10))
  else (
  lt (sI g10 a0 19 (0 : Int32)) (fun g14 =>
  bd (fX7_linesOf a0 a1 g14) (fun _ g17 =>
  lt (0 : Int32) (fun v19 =>
  fX7_limit_l49 FU a0 a2 a3 v19 g17))))))))))
  else none
theorem pX7_limit_b186 {h0 : xH} {r49 : Nat → Int32 → Int32 → Int32 → xH → Option (Int64 × xH)} (hr49 : ∀  (a0 : Nat) (a2 : Int32) (a3 : Int32) (a4 : Int32) (g : xH), S emJ kX7_limit h0 49 [(0, .ref a0), (2, .int a2), (3, .int a3), (4, .int a4)] [] g (r49  a0 a2 a3 a4 g))  (a0 : Nat) (a2 : Int32) (a3 : Int32) (a4 : Int32) (h : xH) : S emJ kX7_limit h0 186 [(0, .ref a0), (2, .int a2), (3, .int a3), (4, .int a4)] [] h (fX7_limit_b186 r49 a0 a2 a3 a4 h) := by
  unfold fX7_limit_b186
  refine s_iinc (pc := 186) (L' := [(4, .int (a4 + (1 : Int32))), (0, .ref a0), (2, .int a2), (3, .int a3)]) (i := 4) (n := 1) 3 rfl rfl (by decide) rfl (by decide +kernel) ?_
  refine s_nmI0 (e := a4 + (1 : Int32)) (L := fun v1 => [(4, .int v1), (0, .ref a0), (2, .int a2), (3, .int a3)]) (fun v1 => ?_)
  refine s_goto (pc := 189) (off := -140) 49 (by decide +kernel) (by decide) ?_
  refine S_sub [1, 2, 3, 0] rfl ?_
  exact hr49 a0 a2 a3 v1 h
theorem pX7_limit_b140 {h0 : xH} {r49 : Nat → Int32 → Int32 → Int32 → xH → Option (Int64 × xH)} (hr49 : ∀  (a0 : Nat) (a2 : Int32) (a3 : Int32) (a4 : Int32) (g : xH), S emJ kX7_limit h0 49 [(0, .ref a0), (2, .int a2), (3, .int a3), (4, .int a4)] [] g (r49  a0 a2 a3 a4 g)) (s0 : Int32) (a0 : Nat) (a2 : Int32) (a3 : Int32) (a4 : Int32) (a5 : Int32) (h : xH) : S emJ kX7_limit h0 140 [(0, .ref a0), (2, .int a2), (3, .int a3), (4, .int a4), (5, .int a5)] [.int s0] h (fX7_limit_b140 r49 s0 a0 a2 a3 a4 a5 h) := by
  unfold fX7_limit_b140
  refine s_istore (pc := 140) (L' := [(6, .int s0), (0, .ref a0), (2, .int a2), (3, .int a3), (4, .int a4), (5, .int a5)]) (i := 6) (by decide) rfl (by decide +kernel) ?_
  refine s_iload (pc := 142) (i := 5) 5 rfl (by decide +kernel) ?_
  refine s_if_eq (pc := 144) (off := 42) 186 (by decide +kernel) (by decide) (fun _ => ?_) (fun _ => ?_)
  · refine S_sub [1, 2, 3, 4] rfl ?_
    exact pX7_limit_b186 hr49 a0 a2 a3 a4 h
  · refine s_iload (pc := 147) (i := 6) 0 rfl (by decide +kernel) ?_
    refine s_if_eq (pc := 149) (off := 37) 186 (by decide +kernel) (by decide) (fun _ => ?_) (fun _ => ?_)
    · refine S_sub [1, 2, 3, 4] rfl ?_
      exact pX7_limit_b186 hr49 a0 a2 a3 a4 h
    · refine s_aload_n (pc := 152) (k0 := 0) (i := 0) rfl 1 rfl (by decide +kernel) ?_
      refine S_gd (fun c1 => ?_)
      refine s_getR (pc := 153) (k := 22) c1 ft_X7_63 rfl (by decide +kernel) ?_
      refine s_iload (pc := 156) (i := 4) 4 rfl (by decide +kernel) ?_
      refine S_gd (fun c2 => ?_)
      refine S_gd (fun c3 => ?_)
      refine s_lald (pc := 158) c2 c3 (by decide +kernel) ?_
      refine s_aload_n (pc := 159) (k0 := 0) (i := 0) rfl 1 rfl (by decide +kernel) ?_
      refine s_getR (pc := 160) (k := 23) c1 ft_X7_66 rfl (by decide +kernel) ?_
      refine s_iload (pc := 163) (i := 4) 4 rfl (by decide +kernel) ?_
      refine S_gd (fun c4 => ?_)
      refine S_gd (fun c5 => ?_)
      refine s_lald (pc := 165) c4 c5 (by decide +kernel) ?_
      refine s_iload_n (pc := 166) (k0 := 2) (i := 2) rfl 2 rfl (by decide +kernel) ?_
      refine s_i2l (pc := 167) (by decide +kernel) ?_
      refine s_lmul (pc := 168) (by decide +kernel) ?_
      refine s_ladd (pc := 169) (by decide +kernel) ?_
      refine s_ldc2 (pc := 170) (v := (60 : Int64)) (index := 274) (gd_of 1214 (by decide +kernel) rfl) (by decide +kernel) ?_
      refine s_aload_n (pc := 173) (k0 := 0) (i := 0) rfl 1 rfl (by decide +kernel) ?_
      refine s_getR (pc := 174) (k := 24) c1 ft_X7_69 rfl (by decide +kernel) ?_
      refine s_iload (pc := 177) (i := 4) 4 rfl (by decide +kernel) ?_
      refine S_gd (fun c6 => ?_)
      refine S_gd (fun c7 => ?_)
      refine s_lald (pc := 179) c6 c7 (by decide +kernel) ?_
      refine s_lmul (pc := 180) (by decide +kernel) ?_
      refine s_iload_n (pc := 181) (k0 := 3) (i := 3) rfl 3 rfl (by decide +kernel) ?_
      refine s_cSj (pc := 182) [.long ((hJ h (hR h a0 22) a4.toNatClampNeg) + ((hJ h (hR h a0 23) a4.toNatClampNeg) * a2.toInt64)), .long ((60 : Int64) * (hJ h (hR h a0 24) a4.toNatClampNeg)), .int a3] (tX7_part ((hJ h (hR h a0 22) a4.toNatClampNeg) + ((hJ h (hR h a0 23) a4.toNatClampNeg) * a2.toInt64)) ((60 : Int64) * (hJ h (hR h a0 24) a4.toNatClampNeg)) a3 h) cw_X7_336 rfl ⟨⟨Nat.le_of_ble_eq_true rfl, Nat.le_of_ble_eq_true rfl⟩, Nat.le_of_ble_eq_true rfl⟩ rfl (by decide +kernel) (fun w10 g8 e9 => ?_)
      exact s_lret (pc := 185) rfl (by decide +kernel)
theorem pX7_limit_b98 {h0 : xH} {r49 : Nat → Int32 → Int32 → Int32 → xH → Option (Int64 × xH)} (hr49 : ∀  (a0 : Nat) (a2 : Int32) (a3 : Int32) (a4 : Int32) (g : xH), S emJ kX7_limit h0 49 [(0, .ref a0), (2, .int a2), (3, .int a3), (4, .int a4)] [] g (r49  a0 a2 a3 a4 g)) (s0 : Int32) (a0 : Nat) (a2 : Int32) (a3 : Int32) (a4 : Int32) (h : xH) : S emJ kX7_limit h0 98 [(0, .ref a0), (2, .int a2), (3, .int a3), (4, .int a4)] [.int s0] h (fX7_limit_b98 r49 s0 a0 a2 a3 a4 h) := by
  unfold fX7_limit_b98
  refine s_istore (pc := 98) (L' := [(5, .int s0), (0, .ref a0), (2, .int a2), (3, .int a3), (4, .int a4)]) (i := 5) (by decide) rfl (by decide +kernel) ?_
  refine s_iload_n (pc := 100) (k0 := 3) (i := 3) rfl 3 rfl (by decide +kernel) ?_
  refine s_iconst (pc := 101) (n := 2) (v := (2 : Int32)) (by decide) (by decide +kernel) ?_
  refine s_icmp_ge (pc := 102) (off := 22) 124 (by decide +kernel) (by decide) (fun _ => ?_) (fun _ => ?_)
  · refine s_aload_n (pc := 124) (k0 := 0) (i := 0) rfl 1 rfl (by decide +kernel) ?_
    refine S_gd (fun c1 => ?_)
    refine s_getR (pc := 125) (k := 21) c1 ft_X7_60 rfl (by decide +kernel) ?_
    refine s_iload (pc := 128) (i := 4) 4 rfl (by decide +kernel) ?_
    refine S_gd (fun c2 => ?_)
    refine S_gd (fun c3 => ?_)
    refine s_iald (pc := 130) c2 c3 (by decide +kernel) ?_
    refine s_iload_n (pc := 131) (k0 := 2) (i := 2) rfl 2 rfl (by decide +kernel) ?_
    refine s_icmp_le (pc := 132) (off := 7) 139 (by decide +kernel) (by decide) (fun _ => ?_) (fun _ => ?_)
    · refine s_iconst (pc := 139) (n := 0) (v := (0 : Int32)) (by decide) (by decide +kernel) ?_
      refine S_sub [1, 2, 3, 4, 0] rfl ?_
      exact pX7_limit_b140 hr49 (0 : Int32) a0 a2 a3 a4 s0 h
    · refine s_iconst (pc := 135) (n := 1) (v := (1 : Int32)) (by decide) (by decide +kernel) ?_
      refine s_goto (pc := 136) (off := 4) 140 (by decide +kernel) (by decide) ?_
      refine S_sub [1, 2, 3, 4, 0] rfl ?_
      exact pX7_limit_b140 hr49 (1 : Int32) a0 a2 a3 a4 s0 h
  · refine s_aload_n (pc := 105) (k0 := 0) (i := 0) rfl 1 rfl (by decide +kernel) ?_
    refine S_gd (fun c4 => ?_)
    refine s_getR (pc := 106) (k := 21) c4 ft_X7_60 rfl (by decide +kernel) ?_
    refine s_iload (pc := 109) (i := 4) 4 rfl (by decide +kernel) ?_
    refine S_gd (fun c5 => ?_)
    refine S_gd (fun c6 => ?_)
    refine s_iald (pc := 111) c5 c6 (by decide +kernel) ?_
    refine s_iload_n (pc := 112) (k0 := 2) (i := 2) rfl 2 rfl (by decide +kernel) ?_
    refine s_icmp_lt (pc := 113) (off := 7) 120 (by decide +kernel) (by decide) (fun _ => ?_) (fun _ => ?_)
    · refine s_iconst (pc := 120) (n := 0) (v := (0 : Int32)) (by decide) (by decide +kernel) ?_
      refine s_goto (pc := 121) (off := 19) 140 (by decide +kernel) (by decide) ?_
      refine S_sub [1, 2, 3, 4, 0] rfl ?_
      exact pX7_limit_b140 hr49 (0 : Int32) a0 a2 a3 a4 s0 h
    · refine s_iconst (pc := 116) (n := 1) (v := (1 : Int32)) (by decide) (by decide +kernel) ?_
      refine s_goto (pc := 117) (off := 23) 140 (by decide +kernel) (by decide) ?_
      refine S_sub [1, 2, 3, 4, 0] rfl ?_
      exact pX7_limit_b140 hr49 (1 : Int32) a0 a2 a3 a4 s0 h
theorem pX7_limit_b49 {h0 : xH} {r49 : Nat → Int32 → Int32 → Int32 → xH → Option (Int64 × xH)} (hr49 : ∀  (a0 : Nat) (a2 : Int32) (a3 : Int32) (a4 : Int32) (g : xH), S emJ kX7_limit h0 49 [(0, .ref a0), (2, .int a2), (3, .int a3), (4, .int a4)] [] g (r49  a0 a2 a3 a4 g))  (a0 : Nat) (a2 : Int32) (a3 : Int32) (a4 : Int32) (h : xH) : S emJ kX7_limit h0 49 [(0, .ref a0), (2, .int a2), (3, .int a3), (4, .int a4)] [] h (fX7_limit_b49 r49 a0 a2 a3 a4 h) := by
  unfold fX7_limit_b49
  refine s_iload (pc := 49) (i := 4) 3 rfl (by decide +kernel) ?_
  refine s_aload_n (pc := 51) (k0 := 0) (i := 0) rfl 0 rfl (by decide +kernel) ?_
  refine S_gd (fun c1 => ?_)
  refine s_getI (pc := 52) (k := 19) c1 ft_X7_158 rfl (by decide +kernel) ?_
  refine s_icmp_ge (pc := 55) (off := 137) 192 (by decide +kernel) (by decide) (fun _ => ?_) (fun _ => ?_)
  · refine s_ldc2 (pc := 192) (v := (-9223372036854775808 : Int64)) (index := 334) (gd_of 1298 (by decide +kernel) rfl) (by decide +kernel) ?_
    exact s_lret (pc := 195) rfl (by decide +kernel)
  · refine s_iload_n (pc := 58) (k0 := 3) (i := 3) rfl 2 rfl (by decide +kernel) ?_
    refine s_iconst (pc := 59) (n := 2) (v := (2 : Int32)) (by decide) (by decide +kernel) ?_
    refine s_icmp_ge (pc := 60) (off := 22) 82 (by decide +kernel) (by decide) (fun _ => ?_) (fun _ => ?_)
    · refine s_aload_n (pc := 82) (k0 := 0) (i := 0) rfl 0 rfl (by decide +kernel) ?_
      refine s_getR (pc := 83) (k := 20) c1 ft_X7_57 rfl (by decide +kernel) ?_
      refine s_iload (pc := 86) (i := 4) 3 rfl (by decide +kernel) ?_
      refine S_gd (fun c2 => ?_)
      refine S_gd (fun c3 => ?_)
      refine s_iald (pc := 88) c2 c3 (by decide +kernel) ?_
      refine s_iload_n (pc := 89) (k0 := 2) (i := 2) rfl 1 rfl (by decide +kernel) ?_
      refine s_icmp_gt (pc := 90) (off := 7) 97 (by decide +kernel) (by decide) (fun _ => ?_) (fun _ => ?_)
      · refine s_iconst (pc := 97) (n := 0) (v := (0 : Int32)) (by decide) (by decide +kernel) ?_
        exact pX7_limit_b98 hr49 (0 : Int32) a0 a2 a3 a4 h
      · refine s_iconst (pc := 93) (n := 1) (v := (1 : Int32)) (by decide) (by decide +kernel) ?_
        refine s_goto (pc := 94) (off := 4) 98 (by decide +kernel) (by decide) ?_
        exact pX7_limit_b98 hr49 (1 : Int32) a0 a2 a3 a4 h
    · refine s_aload_n (pc := 63) (k0 := 0) (i := 0) rfl 0 rfl (by decide +kernel) ?_
      refine s_getR (pc := 64) (k := 20) c1 ft_X7_57 rfl (by decide +kernel) ?_
      refine s_iload (pc := 67) (i := 4) 3 rfl (by decide +kernel) ?_
      refine S_gd (fun c4 => ?_)
      refine S_gd (fun c5 => ?_)
      refine s_iald (pc := 69) c4 c5 (by decide +kernel) ?_
      refine s_iload_n (pc := 70) (k0 := 2) (i := 2) rfl 1 rfl (by decide +kernel) ?_
      refine s_icmp_ge (pc := 71) (off := 7) 78 (by decide +kernel) (by decide) (fun _ => ?_) (fun _ => ?_)
      · refine s_iconst (pc := 78) (n := 0) (v := (0 : Int32)) (by decide) (by decide +kernel) ?_
        refine s_goto (pc := 79) (off := 19) 98 (by decide +kernel) (by decide) ?_
        exact pX7_limit_b98 hr49 (0 : Int32) a0 a2 a3 a4 h
      · refine s_iconst (pc := 74) (n := 1) (v := (1 : Int32)) (by decide) (by decide +kernel) ?_
        refine s_goto (pc := 75) (off := 23) 98 (by decide +kernel) (by decide) ?_
        exact pX7_limit_b98 hr49 (1 : Int32) a0 a2 a3 a4 h
theorem pX7_limit_l49 {h0 : xH}   : ∀ (k : Nat)  (a0 : Nat) (a2 : Int32) (a3 : Int32) (a4 : Int32) (h : xH), S emJ kX7_limit h0 49 [(0, .ref a0), (2, .int a2), (3, .int a3), (4, .int a4)] [] h (fX7_limit_l49  k  a0 a2 a3 a4 h) := by
  intro k
  induction k with
  | zero => intros; exact S_none
  | succ k ih => intro  a0 a2 a3 a4 h; exact pX7_limit_b49 ih  a0 a2 a3 a4 h
theorem pX7_limit_e    (a0 : Nat) (a1 : Int32) (a2 : Int32) (a3 : Int32) (h : xH) : S emJ kX7_limit h 0 [(0, .ref a0), (1, .int a1), (2, .int a2), (3, .int a3)] [] h (fX7_limit  a0 a1 a2 a3 h) := by
  unfold fX7_limit
  refine s_aload_n (pc := 0) (k0 := 0) (i := 0) rfl 0 rfl (by decide +kernel) ?_
  refine s_iconst (pc := 1) (n := 0) (v := (0 : Int32)) (by decide) (by decide +kernel) ?_
  refine S_gd (fun c1 => ?_)
  refine s_putI (pc := 2) (k := 0) c1 ft_X7_107 (fw_7_0 _ _) rfl rfl (by decide +kernel) ?_
  refine s_nmH (o := h) rfl (fun g2 e3 => ?_)
  refine s_iload_n (pc := 5) (k0 := 1) (i := 1) rfl 1 rfl (by decide +kernel) ?_
  refine s_cSi (pc := 6) [.int a1] (tX7_isStore a1 g2) cw_X7_247 rfl ⟨⟨Nat.le_of_ble_eq_true rfl, Nat.le_of_ble_eq_true rfl⟩, Nat.le_of_ble_eq_true rfl⟩ rfl (by decide +kernel) (fun w6 g4 e5 => ?_)
  refine s_if_eq (pc := 9) (off := 23) 32 (by decide +kernel) (by decide) (fun _ => ?_) (fun _ => ?_)
  · refine s_ldc2 (pc := 32) (v := (-9223372036854775808 : Int64)) (index := 334) (gd_of 1298 (by decide +kernel) rfl) (by decide +kernel) ?_
    exact s_lret (pc := 35) rfl (by decide +kernel)
  · refine s_iload_n (pc := 12) (k0 := 2) (i := 2) rfl 2 rfl (by decide +kernel) ?_
    refine s_i2l (pc := 13) (by decide +kernel) ?_
    refine s_cSi (pc := 14) [.long a2.toInt64] (tX7_isPlace a2.toInt64 g4) cw_X7_270 rfl ⟨⟨Nat.le_of_ble_eq_true rfl, Nat.le_of_ble_eq_true rfl⟩, Nat.le_of_ble_eq_true rfl⟩ rfl (by decide +kernel) (fun w9 g7 e8 => ?_)
    refine s_if_eq (pc := 17) (off := 15) 32 (by decide +kernel) (by decide) (fun _ => ?_) (fun _ => ?_)
    · refine s_ldc2 (pc := 32) (v := (-9223372036854775808 : Int64)) (index := 334) (gd_of 1298 (by decide +kernel) rfl) (by decide +kernel) ?_
      exact s_lret (pc := 35) rfl (by decide +kernel)
    · refine s_iload_n (pc := 20) (k0 := 3) (i := 3) rfl 3 rfl (by decide +kernel) ?_
      refine s_i2l (pc := 21) (by decide +kernel) ?_
      refine s_lconst (pc := 22) (n := 0) (v := (0 : Int64)) (by decide) (by decide +kernel) ?_
      refine s_ldc2 (pc := 23) (v := (3 : Int64)) (index := 361) (gd_of 1334 (by decide +kernel) rfl) (by decide +kernel) ?_
      refine s_cSi (pc := 26) [.long a3.toInt64, .long (0 : Int64), .long (3 : Int64)] (tX7_in a3.toInt64 (0 : Int64) (3 : Int64) g7) cw_X7_114 rfl ⟨⟨Nat.le_of_ble_eq_true rfl, Nat.le_of_ble_eq_true rfl⟩, Nat.le_of_ble_eq_true rfl⟩ rfl (by decide +kernel) (fun w12 g10 e11 => ?_)
      refine s_if_ne (pc := 29) (off := 7) 36 (by decide +kernel) (by decide) (fun _ => ?_) (fun _ => ?_)
      · refine s_ldc2 (pc := 32) (v := (-9223372036854775808 : Int64)) (index := 334) (gd_of 1298 (by decide +kernel) rfl) (by decide +kernel) ?_
        exact s_lret (pc := 35) rfl (by decide +kernel)
      · refine s_aload_n (pc := 36) (k0 := 0) (i := 0) rfl 0 rfl (by decide +kernel) ?_
        refine s_iconst (pc := 37) (n := 0) (v := (0 : Int32)) (by decide) (by decide +kernel) ?_
        have c13 := kp (Le.tr e3 (Le.tr e5 (Le.tr e8 e11))) c1 (by decide)
        refine s_putI (pc := 38) (k := 19) c13 ft_X7_158 (fw_7_19 _ _) rfl rfl (by decide +kernel) ?_
        refine s_nmH (o := g10) rfl (fun g14 e15 => ?_)
        refine s_aload_n (pc := 41) (k0 := 0) (i := 0) rfl 0 rfl (by decide +kernel) ?_
        refine s_iload_n (pc := 42) (k0 := 1) (i := 1) rfl 1 rfl (by decide +kernel) ?_
        have c16 := kp e15 c13 (by decide)
        refine s_cVv (pc := 43) [.int a1] (tX7_linesOf a0 a1 g14) c16 cw_X7_251 rfl ⟨⟨Nat.le_of_ble_eq_true rfl, Nat.le_of_ble_eq_true rfl⟩, Nat.le_of_ble_eq_true rfl⟩ rfl (by decide +kernel) (fun _ g17 e18 => ?_)
        refine s_iconst (pc := 46) (n := 0) (v := (0 : Int32)) (by decide) (by decide +kernel) ?_
        refine s_nmI (fun v19 => ?_)
        refine s_istore (pc := 47) (L' := [(4, .int v19), (0, .ref a0), (1, .int a1), (2, .int a2), (3, .int a3)]) (i := 4) (by decide) rfl (by decide +kernel) ?_
        refine S_sub [1, 3, 4, 0] rfl ?_
        exact pX7_limit_l49 FU a0 a2 a3 v19 g17
theorem tX7_limit (a0 : Nat) (a1 : Int32) (a2 : Int32) (a3 : Int32) (h : xH) : Ct yX7_limit kX7_limit emJ [.ref a0, .int a1, .int a2, .int a3] h (fX7_limit a0 a1 a2 a3 h) := Ct_of (by decide +kernel) rfl rfl rfl (Nat.le_of_ble_eq_true rfl) rfl (pX7_limit_e a0 a1 a2 a3 h)
def fX7_linesIn_b28 (r4 : Nat → Int32 → Int32 → Int32 → xH → Option (Int32 × xH)) (s0 : Int32) (s1 : Int32) (a0 : Nat) (a1 : Int32) (a3 : Int32) (h : xH) : Option (Int32 × xH) :=
  lt (s1 + s0) (fun v1 =>
  lt (a3 + (1 : Int32)) (fun v2 =>
  r4 a0 a1 v1 v2 h))
def fX7_linesIn_b4 (r4 : Nat → Int32 → Int32 → Int32 → xH → Option (Int32 × xH))  (a0 : Nat) (a1 : Int32) (a2 : Int32) (a3 : Int32) (h : xH) : Option (Int32 × xH) :=
  if kc h a0 = 7 then
  bd (fX7_many a0 a1 h) (fun w4 g2 =>
  if w4 ≤ a3 then (
  some (a2, g2))
  else (
  bd (fX7_goes a0 a1 a3 g2) (fun w8 g6 =>
  if w8 = 0 then (
  fX7_linesIn_b28 r4 (0 : Int32) a2 a0 a1 a3 g6)
  else (
  fX7_linesIn_b28 r4 (1 : Int32) a2 a0 a1 a3 g6))))
  else none
def fX7_linesIn_l4  : Nat → Nat → Int32 → Int32 → Int32 → xH → Option (Int32 × xH)
  | 0 => fun _ _ _ _ _ => none
  | k + 1 => fX7_linesIn_b4 (fX7_linesIn_l4  k)
def fX7_linesIn   (a0 : Nat) (a1 : Int32) (h : xH) : Option (Int32 × xH) :=
  lt (0 : Int32) (fun v1 =>
  lt (0 : Int32) (fun v2 =>
  fX7_linesIn_l4 FU a0 a1 v1 v2 h))
theorem pX7_linesIn_b28 {h0 : xH} {r4 : Nat → Int32 → Int32 → Int32 → xH → Option (Int32 × xH)} (hr4 : ∀  (a0 : Nat) (a1 : Int32) (a2 : Int32) (a3 : Int32) (g : xH), S emI kX7_linesIn h0 4 [(0, .ref a0), (1, .int a1), (2, .int a2), (3, .int a3)] [] g (r4  a0 a1 a2 a3 g)) (s0 : Int32) (s1 : Int32) (a0 : Nat) (a1 : Int32) (a3 : Int32) (h : xH) : S emI kX7_linesIn h0 28 [(0, .ref a0), (1, .int a1), (3, .int a3)] [.int s0, .int s1] h (fX7_linesIn_b28 r4 s0 s1 a0 a1 a3 h) := by
  unfold fX7_linesIn_b28
  refine s_iadd (pc := 28) (by decide +kernel) ?_
  refine s_nmI (fun v1 => ?_)
  refine s_istore_n (pc := 29) (L' := [(2, .int v1), (0, .ref a0), (1, .int a1), (3, .int a3)]) (k0 := 2) (i := 2) rfl (by decide) rfl (by decide +kernel) ?_
  refine s_iinc (pc := 30) (L' := [(3, .int (a3 + (1 : Int32))), (2, .int v1), (0, .ref a0), (1, .int a1)]) (i := 3) (n := 1) 3 rfl rfl (by decide) rfl (by decide +kernel) ?_
  refine s_nmI0 (e := a3 + (1 : Int32)) (L := fun v2 => [(3, .int v2), (2, .int v1), (0, .ref a0), (1, .int a1)]) (fun v2 => ?_)
  refine s_goto (pc := 33) (off := -29) 4 (by decide +kernel) (by decide) ?_
  refine S_sub [2, 3, 1, 0] rfl ?_
  exact hr4 a0 a1 v1 v2 h
theorem pX7_linesIn_b4 {h0 : xH} {r4 : Nat → Int32 → Int32 → Int32 → xH → Option (Int32 × xH)} (hr4 : ∀  (a0 : Nat) (a1 : Int32) (a2 : Int32) (a3 : Int32) (g : xH), S emI kX7_linesIn h0 4 [(0, .ref a0), (1, .int a1), (2, .int a2), (3, .int a3)] [] g (r4  a0 a1 a2 a3 g))  (a0 : Nat) (a1 : Int32) (a2 : Int32) (a3 : Int32) (h : xH) : S emI kX7_linesIn h0 4 [(0, .ref a0), (1, .int a1), (2, .int a2), (3, .int a3)] [] h (fX7_linesIn_b4 r4 a0 a1 a2 a3 h) := by
  unfold fX7_linesIn_b4
  refine s_iload_n (pc := 4) (k0 := 3) (i := 3) rfl 3 rfl (by decide +kernel) ?_
  refine s_aload_n (pc := 5) (k0 := 0) (i := 0) rfl 0 rfl (by decide +kernel) ?_
  refine s_iload_n (pc := 6) (k0 := 1) (i := 1) rfl 1 rfl (by decide +kernel) ?_
  refine S_gd (fun c1 => ?_)
  refine s_cVi (pc := 7) [.int a1] (tX7_many a0 a1 h) c1 cw_X7_168 rfl ⟨⟨Nat.le_of_ble_eq_true rfl, Nat.le_of_ble_eq_true rfl⟩, Nat.le_of_ble_eq_true rfl⟩ rfl (by decide +kernel) (fun w4 g2 e3 => ?_)
  refine s_icmp_ge (pc := 10) (off := 26) 36 (by decide +kernel) (by decide) (fun _ => ?_) (fun _ => ?_)
  · refine s_iload_n (pc := 36) (k0 := 2) (i := 2) rfl 2 rfl (by decide +kernel) ?_
    exact s_iret (pc := 37) rfl (by decide +kernel)
  · refine s_iload_n (pc := 13) (k0 := 2) (i := 2) rfl 2 rfl (by decide +kernel) ?_
    refine s_aload_n (pc := 14) (k0 := 0) (i := 0) rfl 0 rfl (by decide +kernel) ?_
    refine s_iload_n (pc := 15) (k0 := 1) (i := 1) rfl 1 rfl (by decide +kernel) ?_
    refine s_iload_n (pc := 16) (k0 := 3) (i := 3) rfl 3 rfl (by decide +kernel) ?_
    have c5 := kp e3 c1 (by decide)
    refine s_cVi (pc := 17) [.int a1, .int a3] (tX7_goes a0 a1 a3 g2) c5 cw_X7_154 rfl ⟨⟨Nat.le_of_ble_eq_true rfl, Nat.le_of_ble_eq_true rfl⟩, Nat.le_of_ble_eq_true rfl⟩ rfl (by decide +kernel) (fun w8 g6 e7 => ?_)
    refine s_if_eq (pc := 20) (off := 7) 27 (by decide +kernel) (by decide) (fun _ => ?_) (fun _ => ?_)
    · refine s_iconst (pc := 27) (n := 0) (v := (0 : Int32)) (by decide) (by decide +kernel) ?_
      refine S_sub [0, 1, 3] rfl ?_
      exact pX7_linesIn_b28 hr4 (0 : Int32) a2 a0 a1 a3 g6
    · refine s_iconst (pc := 23) (n := 1) (v := (1 : Int32)) (by decide) (by decide +kernel) ?_
      refine s_goto (pc := 24) (off := 4) 28 (by decide +kernel) (by decide) ?_
      refine S_sub [0, 1, 3] rfl ?_
      exact pX7_linesIn_b28 hr4 (1 : Int32) a2 a0 a1 a3 g6
theorem pX7_linesIn_l4 {h0 : xH}   : ∀ (k : Nat)  (a0 : Nat) (a1 : Int32) (a2 : Int32) (a3 : Int32) (h : xH), S emI kX7_linesIn h0 4 [(0, .ref a0), (1, .int a1), (2, .int a2), (3, .int a3)] [] h (fX7_linesIn_l4  k  a0 a1 a2 a3 h) := by
  intro k
  induction k with
  | zero => intros; exact S_none
  | succ k ih => intro  a0 a1 a2 a3 h; exact pX7_linesIn_b4 ih  a0 a1 a2 a3 h
theorem pX7_linesIn_e    (a0 : Nat) (a1 : Int32) (h : xH) : S emI kX7_linesIn h 0 [(0, .ref a0), (1, .int a1)] [] h (fX7_linesIn  a0 a1 h) := by
  unfold fX7_linesIn
  refine s_iconst (pc := 0) (n := 0) (v := (0 : Int32)) (by decide) (by decide +kernel) ?_
  refine s_nmI (fun v1 => ?_)
  refine s_istore_n (pc := 1) (L' := [(2, .int v1), (0, .ref a0), (1, .int a1)]) (k0 := 2) (i := 2) rfl (by decide) rfl (by decide +kernel) ?_
  refine s_iconst (pc := 2) (n := 0) (v := (0 : Int32)) (by decide) (by decide +kernel) ?_
  refine s_nmI (fun v2 => ?_)
  refine s_istore_n (pc := 3) (L' := [(3, .int v2), (2, .int v1), (0, .ref a0), (1, .int a1)]) (k0 := 3) (i := 3) rfl (by decide) rfl (by decide +kernel) ?_
  refine S_sub [2, 3, 1, 0] rfl ?_
  exact pX7_linesIn_l4 FU a0 a1 v1 v2 h
theorem tX7_linesIn (a0 : Nat) (a1 : Int32) (h : xH) : Ct yX7_linesIn kX7_linesIn emI [.ref a0, .int a1] h (fX7_linesIn a0 a1 h) := Ct_of (by decide +kernel) rfl rfl rfl (Nat.le_of_ble_eq_true rfl) rfl (pX7_linesIn_e a0 a1 h)
def fX7_jumps_b47 (r4 : Nat → Int32 → Int32 → Int32 → xH → Option (Int32 × xH)) (s0 : Int32) (s1 : Int32) (a0 : Nat) (a1 : Int32) (a3 : Int32) (h : xH) : Option (Int32 × xH) :=
  lt (s1 + s0) (fun v1 =>
  lt (a3 + (1 : Int32)) (fun v2 =>
  r4 a0 a1 v1 v2 h))
def fX7_jumps_b46 (r4 : Nat → Int32 → Int32 → Int32 → xH → Option (Int32 × xH)) (s0 : Int32) (a0 : Nat) (a1 : Int32) (a3 : Int32) (h : xH) : Option (Int32 × xH) :=
  fX7_jumps_b47 r4 (0 : Int32) s0 a0 a1 a3 h
def fX7_jumps_b4 (r4 : Nat → Int32 → Int32 → Int32 → xH → Option (Int32 × xH))  (a0 : Nat) (a1 : Int32) (a2 : Int32) (a3 : Int32) (h : xH) : Option (Int32 × xH) :=
  if kc h a0 = 7 then
  bd (fX7_many a0 a1 h) (fun w4 g2 =>
  if w4 ≤ a3 then (
  some (a2, g2))
  else (
  bd (fX7_goes a0 a1 (a3 - (1 : Int32)) g2) (fun w8 g6 =>
  if w8 = 0 then (
  bd (fX7_xOf a0 a1 a3 g6) (fun w12 g10 =>
  bd (fX7_xOf a0 a1 (a3 - (1 : Int32)) g10) (fun w16 g14 =>
  if w12 = w16 then (
  fX7_jumps_b47 r4 (1 : Int32) a2 a0 a1 a3 g14)
  else (
  fX7_jumps_b46 r4 a2 a0 a1 a3 g14))))
  else (
  fX7_jumps_b46 r4 a2 a0 a1 a3 g6))))
  else none
def fX7_jumps_l4  : Nat → Nat → Int32 → Int32 → Int32 → xH → Option (Int32 × xH)
  | 0 => fun _ _ _ _ _ => none
  | k + 1 => fX7_jumps_b4 (fX7_jumps_l4  k)
def fX7_jumps   (a0 : Nat) (a1 : Int32) (h : xH) : Option (Int32 × xH) :=
  lt (0 : Int32) (fun v1 =>
  lt (1 : Int32) (fun v2 =>
  fX7_jumps_l4 FU a0 a1 v1 v2 h))
theorem pX7_jumps_b47 {h0 : xH} {r4 : Nat → Int32 → Int32 → Int32 → xH → Option (Int32 × xH)} (hr4 : ∀  (a0 : Nat) (a1 : Int32) (a2 : Int32) (a3 : Int32) (g : xH), S emI kX7_jumps h0 4 [(0, .ref a0), (1, .int a1), (2, .int a2), (3, .int a3)] [] g (r4  a0 a1 a2 a3 g)) (s0 : Int32) (s1 : Int32) (a0 : Nat) (a1 : Int32) (a3 : Int32) (h : xH) : S emI kX7_jumps h0 47 [(0, .ref a0), (1, .int a1), (3, .int a3)] [.int s0, .int s1] h (fX7_jumps_b47 r4 s0 s1 a0 a1 a3 h) := by
  unfold fX7_jumps_b47
  refine s_iadd (pc := 47) (by decide +kernel) ?_
  refine s_nmI (fun v1 => ?_)
  refine s_istore_n (pc := 48) (L' := [(2, .int v1), (0, .ref a0), (1, .int a1), (3, .int a3)]) (k0 := 2) (i := 2) rfl (by decide) rfl (by decide +kernel) ?_
  refine s_iinc (pc := 49) (L' := [(3, .int (a3 + (1 : Int32))), (2, .int v1), (0, .ref a0), (1, .int a1)]) (i := 3) (n := 1) 3 rfl rfl (by decide) rfl (by decide +kernel) ?_
  refine s_nmI0 (e := a3 + (1 : Int32)) (L := fun v2 => [(3, .int v2), (2, .int v1), (0, .ref a0), (1, .int a1)]) (fun v2 => ?_)
  refine s_goto (pc := 52) (off := -48) 4 (by decide +kernel) (by decide) ?_
  refine S_sub [2, 3, 1, 0] rfl ?_
  exact hr4 a0 a1 v1 v2 h
theorem pX7_jumps_b46 {h0 : xH} {r4 : Nat → Int32 → Int32 → Int32 → xH → Option (Int32 × xH)} (hr4 : ∀  (a0 : Nat) (a1 : Int32) (a2 : Int32) (a3 : Int32) (g : xH), S emI kX7_jumps h0 4 [(0, .ref a0), (1, .int a1), (2, .int a2), (3, .int a3)] [] g (r4  a0 a1 a2 a3 g)) (s0 : Int32) (a0 : Nat) (a1 : Int32) (a3 : Int32) (h : xH) : S emI kX7_jumps h0 46 [(0, .ref a0), (1, .int a1), (3, .int a3)] [.int s0] h (fX7_jumps_b46 r4 s0 a0 a1 a3 h) := by
  unfold fX7_jumps_b46
  refine s_iconst (pc := 46) (n := 0) (v := (0 : Int32)) (by decide) (by decide +kernel) ?_
  exact pX7_jumps_b47 hr4 (0 : Int32) s0 a0 a1 a3 h
theorem pX7_jumps_b4 {h0 : xH} {r4 : Nat → Int32 → Int32 → Int32 → xH → Option (Int32 × xH)} (hr4 : ∀  (a0 : Nat) (a1 : Int32) (a2 : Int32) (a3 : Int32) (g : xH), S emI kX7_jumps h0 4 [(0, .ref a0), (1, .int a1), (2, .int a2), (3, .int a3)] [] g (r4  a0 a1 a2 a3 g))  (a0 : Nat) (a1 : Int32) (a2 : Int32) (a3 : Int32) (h : xH) : S emI kX7_jumps h0 4 [(0, .ref a0), (1, .int a1), (2, .int a2), (3, .int a3)] [] h (fX7_jumps_b4 r4 a0 a1 a2 a3 h) := by
  unfold fX7_jumps_b4
  refine s_iload_n (pc := 4) (k0 := 3) (i := 3) rfl 3 rfl (by decide +kernel) ?_
  refine s_aload_n (pc := 5) (k0 := 0) (i := 0) rfl 0 rfl (by decide +kernel) ?_
  refine s_iload_n (pc := 6) (k0 := 1) (i := 1) rfl 1 rfl (by decide +kernel) ?_
  refine S_gd (fun c1 => ?_)
  refine s_cVi (pc := 7) [.int a1] (tX7_many a0 a1 h) c1 cw_X7_168 rfl ⟨⟨Nat.le_of_ble_eq_true rfl, Nat.le_of_ble_eq_true rfl⟩, Nat.le_of_ble_eq_true rfl⟩ rfl (by decide +kernel) (fun w4 g2 e3 => ?_)
  refine s_icmp_ge (pc := 10) (off := 45) 55 (by decide +kernel) (by decide) (fun _ => ?_) (fun _ => ?_)
  · refine s_iload_n (pc := 55) (k0 := 2) (i := 2) rfl 2 rfl (by decide +kernel) ?_
    exact s_iret (pc := 56) rfl (by decide +kernel)
  · refine s_iload_n (pc := 13) (k0 := 2) (i := 2) rfl 2 rfl (by decide +kernel) ?_
    refine s_aload_n (pc := 14) (k0 := 0) (i := 0) rfl 0 rfl (by decide +kernel) ?_
    refine s_iload_n (pc := 15) (k0 := 1) (i := 1) rfl 1 rfl (by decide +kernel) ?_
    refine s_iload_n (pc := 16) (k0 := 3) (i := 3) rfl 3 rfl (by decide +kernel) ?_
    refine s_iconst (pc := 17) (n := 1) (v := (1 : Int32)) (by decide) (by decide +kernel) ?_
    refine s_isub (pc := 18) (by decide +kernel) ?_
    have c5 := kp e3 c1 (by decide)
    refine s_cVi (pc := 19) [.int a1, .int (a3 - (1 : Int32))] (tX7_goes a0 a1 (a3 - (1 : Int32)) g2) c5 cw_X7_154 rfl ⟨⟨Nat.le_of_ble_eq_true rfl, Nat.le_of_ble_eq_true rfl⟩, Nat.le_of_ble_eq_true rfl⟩ rfl (by decide +kernel) (fun w8 g6 e7 => ?_)
    refine s_if_ne (pc := 22) (off := 24) 46 (by decide +kernel) (by decide) (fun _ => ?_) (fun _ => ?_)
    · refine s_aload_n (pc := 25) (k0 := 0) (i := 0) rfl 0 rfl (by decide +kernel) ?_
      refine s_iload_n (pc := 26) (k0 := 1) (i := 1) rfl 1 rfl (by decide +kernel) ?_
      refine s_iload_n (pc := 27) (k0 := 3) (i := 3) rfl 3 rfl (by decide +kernel) ?_
      have c9 := kp e7 c5 (by decide)
      refine s_cVi (pc := 28) [.int a1, .int a3] (tX7_xOf a0 a1 a3 g6) c9 cw_X7_174 rfl ⟨⟨Nat.le_of_ble_eq_true rfl, Nat.le_of_ble_eq_true rfl⟩, Nat.le_of_ble_eq_true rfl⟩ rfl (by decide +kernel) (fun w12 g10 e11 => ?_)
      refine s_aload_n (pc := 31) (k0 := 0) (i := 0) rfl 0 rfl (by decide +kernel) ?_
      refine s_iload_n (pc := 32) (k0 := 1) (i := 1) rfl 1 rfl (by decide +kernel) ?_
      refine s_iload_n (pc := 33) (k0 := 3) (i := 3) rfl 3 rfl (by decide +kernel) ?_
      refine s_iconst (pc := 34) (n := 1) (v := (1 : Int32)) (by decide) (by decide +kernel) ?_
      refine s_isub (pc := 35) (by decide +kernel) ?_
      have c13 := kp e11 c9 (by decide)
      refine s_cVi (pc := 36) [.int a1, .int (a3 - (1 : Int32))] (tX7_xOf a0 a1 (a3 - (1 : Int32)) g10) c13 cw_X7_174 rfl ⟨⟨Nat.le_of_ble_eq_true rfl, Nat.le_of_ble_eq_true rfl⟩, Nat.le_of_ble_eq_true rfl⟩ rfl (by decide +kernel) (fun w16 g14 e15 => ?_)
      refine s_icmp_ne (pc := 39) (off := 7) 46 (by decide +kernel) (by decide) (fun _ => ?_) (fun _ => ?_)
      · refine s_iconst (pc := 42) (n := 1) (v := (1 : Int32)) (by decide) (by decide +kernel) ?_
        refine s_goto (pc := 43) (off := 4) 47 (by decide +kernel) (by decide) ?_
        refine S_sub [0, 1, 3] rfl ?_
        exact pX7_jumps_b47 hr4 (1 : Int32) a2 a0 a1 a3 g14
      · refine S_sub [0, 1, 3] rfl ?_
        exact pX7_jumps_b46 hr4 a2 a0 a1 a3 g14
    · refine S_sub [0, 1, 3] rfl ?_
      exact pX7_jumps_b46 hr4 a2 a0 a1 a3 g6
theorem pX7_jumps_l4 {h0 : xH}   : ∀ (k : Nat)  (a0 : Nat) (a1 : Int32) (a2 : Int32) (a3 : Int32) (h : xH), S emI kX7_jumps h0 4 [(0, .ref a0), (1, .int a1), (2, .int a2), (3, .int a3)] [] h (fX7_jumps_l4  k  a0 a1 a2 a3 h) := by
  intro k
  induction k with
  | zero => intros; exact S_none
  | succ k ih => intro  a0 a1 a2 a3 h; exact pX7_jumps_b4 ih  a0 a1 a2 a3 h
theorem pX7_jumps_e    (a0 : Nat) (a1 : Int32) (h : xH) : S emI kX7_jumps h 0 [(0, .ref a0), (1, .int a1)] [] h (fX7_jumps  a0 a1 h) := by
  unfold fX7_jumps
  refine s_iconst (pc := 0) (n := 0) (v := (0 : Int32)) (by decide) (by decide +kernel) ?_
  refine s_nmI (fun v1 => ?_)
  refine s_istore_n (pc := 1) (L' := [(2, .int v1), (0, .ref a0), (1, .int a1)]) (k0 := 2) (i := 2) rfl (by decide) rfl (by decide +kernel) ?_
  refine s_iconst (pc := 2) (n := 1) (v := (1 : Int32)) (by decide) (by decide +kernel) ?_
  refine s_nmI (fun v2 => ?_)
  refine s_istore_n (pc := 3) (L' := [(3, .int v2), (2, .int v1), (0, .ref a0), (1, .int a1)]) (k0 := 3) (i := 3) rfl (by decide) rfl (by decide +kernel) ?_
  refine S_sub [2, 3, 1, 0] rfl ?_
  exact pX7_jumps_l4 FU a0 a1 v1 v2 h
theorem tX7_jumps (a0 : Nat) (a1 : Int32) (h : xH) : Ct yX7_jumps kX7_jumps emI [.ref a0, .int a1] h (fX7_jumps a0 a1 h) := Ct_of (by decide +kernel) rfl rfl rfl (Nat.le_of_ble_eq_true rfl) rfl (pX7_jumps_e a0 a1 h)
def fX7_falls_b166 (r8 : Nat → Int32 → Int32 → Int32 → Int32 → Int32 → xH → Option (Int32 × xH))  (a0 : Nat) (a1 : Int32) (a2 : Int32) (a3 : Int32) (a4 : Int32) (a5 : Int32) (h : xH) : Option (Int32 × xH) :=
  lt (a5 + (1 : Int32)) (fun v1 =>
  r8 a0 a1 a2 a3 a4 v1 h)
def fX7_falls_b162 (r8 : Nat → Int32 → Int32 → Int32 → Int32 → Int32 → xH → Option (Int32 × xH))  (a0 : Nat) (a1 : Int32) (a2 : Int32) (a3 : Int32) (a5 : Int32) (h : xH) : Option (Int32 × xH) :=
  fX7_falls_b166 r8 a0 a1 a2 a3 a5 a5 h
def fX7_falls_b160 (r8 : Nat → Int32 → Int32 → Int32 → Int32 → Int32 → xH → Option (Int32 × xH)) (s0 : Int32) (s1 : Int32) (a0 : Nat) (a1 : Int32) (a2 : Int32) (a5 : Int32) (h : xH) : Option (Int32 × xH) :=
  lt (s1 + s0) (fun v1 =>
  fX7_falls_b162 r8 a0 a1 a2 v1 a5 h)
def fX7_falls_b8 (r8 : Nat → Int32 → Int32 → Int32 → Int32 → Int32 → xH → Option (Int32 × xH))  (a0 : Nat) (a1 : Int32) (a2 : Int32) (a3 : Int32) (a4 : Int32) (a5 : Int32) (h : xH) : Option (Int32 × xH) :=
  if kc h a0 = 7 then
  bd (fX7_many a0 a1 h) (fun w4 g2 =>
  if w4 ≤ a5 then (
  some (a3, g2))
  else (
  bd (fX7_goes a0 a1 a5 g2) (fun w8 g6 =>
  if w8 = 0 then (
  fX7_falls_b166 r8 a0 a1 a2 a3 a4 a5 g6)
  else (
  if a4 = (-1 : Int32) then (
  fX7_falls_b162 r8 a0 a1 a2 a3 a5 g6)
  else (
  bd (fX7_xOf a0 a1 (a4 + (1 : Int32)) g6) (fun w12 g10 =>
  bd (fX7_xOf a0 a1 a4 g10) (fun w16 g14 =>
  lt ((w12 - w16).toInt64) (fun v17 =>
  bd (fX7_yOf a0 a1 (a4 + (1 : Int32)) g14) (fun w21 g19 =>
  bd (fX7_yOf a0 a1 a4 g19) (fun w25 g23 =>
  lt ((w21 - w25).toInt64) (fun v26 =>
  bd (fX7_xOf a0 a1 (a5 + (1 : Int32)) g23) (fun w30 g28 =>
  bd (fX7_xOf a0 a1 a5 g28) (fun w34 g32 =>
  lt ((w30 - w34).toInt64) (fun v35 =>
  bd (fX7_yOf a0 a1 (a5 + (1 : Int32)) g32) (fun w39 g37 =>
  bd (fX7_yOf a0 a1 a5 g37) (fun w43 g41 =>
  lt ((w39 - w43).toInt64) (fun v44 =>
  if a2 = 0 then (
  if 0 < (lg_cmp (v44 * v17) (v26 * v35)) then (
  fX7_falls_b160 r8 (0 : Int32) a3 a0 a1 a2 a5 g41)
  else (
  fX7_falls_b160 r8 (1 : Int32) a3 a0 a1 a2 a5 g41))
  else (
  if 0 ≤ (lg_cmp (v44 * v17) (v26 * v35)) then (
  fX7_falls_b160 r8 (0 : Int32) a3 a0 a1 a2 a5 g41)
  else (
  fX7_falls_b160 r8 (1 : Int32) a3 a0 a1 a2 a5 g41)))))))))))))))))))
  else none
def fX7_falls_l8  : Nat → Nat → Int32 → Int32 → Int32 → Int32 → Int32 → xH → Option (Int32 × xH)
  | 0 => fun _ _ _ _ _ _ _ => none
  | k + 1 => fX7_falls_b8 (fX7_falls_l8  k)
def fX7_falls   (a0 : Nat) (a1 : Int32) (a2 : Int32) (h : xH) : Option (Int32 × xH) :=
  lt (0 : Int32) (fun v1 =>
  lt (-1 : Int32) (fun v2 =>
  lt (0 : Int32) (fun v3 =>
  fX7_falls_l8 FU a0 a1 a2 v1 v2 v3 h)))
theorem pX7_falls_b166 {h0 : xH} {r8 : Nat → Int32 → Int32 → Int32 → Int32 → Int32 → xH → Option (Int32 × xH)} (hr8 : ∀  (a0 : Nat) (a1 : Int32) (a2 : Int32) (a3 : Int32) (a4 : Int32) (a5 : Int32) (g : xH), S emI kX7_falls h0 8 [(0, .ref a0), (1, .int a1), (2, .int a2), (3, .int a3), (4, .int a4), (5, .int a5)] [] g (r8  a0 a1 a2 a3 a4 a5 g))  (a0 : Nat) (a1 : Int32) (a2 : Int32) (a3 : Int32) (a4 : Int32) (a5 : Int32) (h : xH) : S emI kX7_falls h0 166 [(0, .ref a0), (1, .int a1), (2, .int a2), (3, .int a3), (4, .int a4), (5, .int a5)] [] h (fX7_falls_b166 r8 a0 a1 a2 a3 a4 a5 h) := by
  unfold fX7_falls_b166
  refine s_iinc (pc := 166) (L' := [(5, .int (a5 + (1 : Int32))), (0, .ref a0), (1, .int a1), (2, .int a2), (3, .int a3), (4, .int a4)]) (i := 5) (n := 1) 5 rfl rfl (by decide) rfl (by decide +kernel) ?_
  refine s_nmI0 (e := a5 + (1 : Int32)) (L := fun v1 => [(5, .int v1), (0, .ref a0), (1, .int a1), (2, .int a2), (3, .int a3), (4, .int a4)]) (fun v1 => ?_)
  refine s_goto (pc := 169) (off := -161) 8 (by decide +kernel) (by decide) ?_
  refine S_sub [1, 2, 3, 4, 5, 0] rfl ?_
  exact hr8 a0 a1 a2 a3 a4 v1 h
theorem pX7_falls_b162 {h0 : xH} {r8 : Nat → Int32 → Int32 → Int32 → Int32 → Int32 → xH → Option (Int32 × xH)} (hr8 : ∀  (a0 : Nat) (a1 : Int32) (a2 : Int32) (a3 : Int32) (a4 : Int32) (a5 : Int32) (g : xH), S emI kX7_falls h0 8 [(0, .ref a0), (1, .int a1), (2, .int a2), (3, .int a3), (4, .int a4), (5, .int a5)] [] g (r8  a0 a1 a2 a3 a4 a5 g))  (a0 : Nat) (a1 : Int32) (a2 : Int32) (a3 : Int32) (a5 : Int32) (h : xH) : S emI kX7_falls h0 162 [(0, .ref a0), (1, .int a1), (2, .int a2), (3, .int a3), (5, .int a5)] [] h (fX7_falls_b162 r8 a0 a1 a2 a3 a5 h) := by
  unfold fX7_falls_b162
  refine s_iload (pc := 162) (i := 5) 4 rfl (by decide +kernel) ?_
  refine s_istore (pc := 164) (L' := [(4, .int a5), (0, .ref a0), (1, .int a1), (2, .int a2), (3, .int a3), (5, .int a5)]) (i := 4) (by decide) rfl (by decide +kernel) ?_
  refine S_sub [1, 2, 3, 4, 0, 5] rfl ?_
  exact pX7_falls_b166 hr8 a0 a1 a2 a3 a5 a5 h
theorem pX7_falls_b160 {h0 : xH} {r8 : Nat → Int32 → Int32 → Int32 → Int32 → Int32 → xH → Option (Int32 × xH)} (hr8 : ∀  (a0 : Nat) (a1 : Int32) (a2 : Int32) (a3 : Int32) (a4 : Int32) (a5 : Int32) (g : xH), S emI kX7_falls h0 8 [(0, .ref a0), (1, .int a1), (2, .int a2), (3, .int a3), (4, .int a4), (5, .int a5)] [] g (r8  a0 a1 a2 a3 a4 a5 g)) (s0 : Int32) (s1 : Int32) (a0 : Nat) (a1 : Int32) (a2 : Int32) (a5 : Int32) (h : xH) : S emI kX7_falls h0 160 [(0, .ref a0), (1, .int a1), (2, .int a2), (5, .int a5)] [.int s0, .int s1] h (fX7_falls_b160 r8 s0 s1 a0 a1 a2 a5 h) := by
  unfold fX7_falls_b160
  refine s_iadd (pc := 160) (by decide +kernel) ?_
  refine s_nmI (fun v1 => ?_)
  refine s_istore_n (pc := 161) (L' := [(3, .int v1), (0, .ref a0), (1, .int a1), (2, .int a2), (5, .int a5)]) (k0 := 3) (i := 3) rfl (by decide) rfl (by decide +kernel) ?_
  refine S_sub [1, 2, 3, 0, 4] rfl ?_
  exact pX7_falls_b162 hr8 a0 a1 a2 v1 a5 h
theorem pX7_falls_b8 {h0 : xH} {r8 : Nat → Int32 → Int32 → Int32 → Int32 → Int32 → xH → Option (Int32 × xH)} (hr8 : ∀  (a0 : Nat) (a1 : Int32) (a2 : Int32) (a3 : Int32) (a4 : Int32) (a5 : Int32) (g : xH), S emI kX7_falls h0 8 [(0, .ref a0), (1, .int a1), (2, .int a2), (3, .int a3), (4, .int a4), (5, .int a5)] [] g (r8  a0 a1 a2 a3 a4 a5 g))  (a0 : Nat) (a1 : Int32) (a2 : Int32) (a3 : Int32) (a4 : Int32) (a5 : Int32) (h : xH) : S emI kX7_falls h0 8 [(0, .ref a0), (1, .int a1), (2, .int a2), (3, .int a3), (4, .int a4), (5, .int a5)] [] h (fX7_falls_b8 r8 a0 a1 a2 a3 a4 a5 h) := by
  unfold fX7_falls_b8
  refine s_iload (pc := 8) (i := 5) 5 rfl (by decide +kernel) ?_
  refine s_aload_n (pc := 10) (k0 := 0) (i := 0) rfl 0 rfl (by decide +kernel) ?_
  refine s_iload_n (pc := 11) (k0 := 1) (i := 1) rfl 1 rfl (by decide +kernel) ?_
  refine S_gd (fun c1 => ?_)
  refine s_cVi (pc := 12) [.int a1] (tX7_many a0 a1 h) c1 cw_X7_168 rfl ⟨⟨Nat.le_of_ble_eq_true rfl, Nat.le_of_ble_eq_true rfl⟩, Nat.le_of_ble_eq_true rfl⟩ rfl (by decide +kernel) (fun w4 g2 e3 => ?_)
  refine s_icmp_ge (pc := 15) (off := 157) 172 (by decide +kernel) (by decide) (fun _ => ?_) (fun _ => ?_)
  · refine s_iload_n (pc := 172) (k0 := 3) (i := 3) rfl 3 rfl (by decide +kernel) ?_
    exact s_iret (pc := 173) rfl (by decide +kernel)
  · refine s_aload_n (pc := 18) (k0 := 0) (i := 0) rfl 0 rfl (by decide +kernel) ?_
    refine s_iload_n (pc := 19) (k0 := 1) (i := 1) rfl 1 rfl (by decide +kernel) ?_
    refine s_iload (pc := 20) (i := 5) 5 rfl (by decide +kernel) ?_
    have c5 := kp e3 c1 (by decide)
    refine s_cVi (pc := 22) [.int a1, .int a5] (tX7_goes a0 a1 a5 g2) c5 cw_X7_154 rfl ⟨⟨Nat.le_of_ble_eq_true rfl, Nat.le_of_ble_eq_true rfl⟩, Nat.le_of_ble_eq_true rfl⟩ rfl (by decide +kernel) (fun w8 g6 e7 => ?_)
    refine s_if_eq (pc := 25) (off := 141) 166 (by decide +kernel) (by decide) (fun _ => ?_) (fun _ => ?_)
    · exact pX7_falls_b166 hr8 a0 a1 a2 a3 a4 a5 g6
    · refine s_iload (pc := 28) (i := 4) 4 rfl (by decide +kernel) ?_
      refine s_iconst (pc := 30) (n := -1) (v := (-1 : Int32)) (by decide) (by decide +kernel) ?_
      refine s_icmp_eq (pc := 31) (off := 131) 162 (by decide +kernel) (by decide) (fun _ => ?_) (fun _ => ?_)
      · refine S_sub [0, 1, 2, 3, 5] rfl ?_
        exact pX7_falls_b162 hr8 a0 a1 a2 a3 a5 g6
      · refine s_aload_n (pc := 34) (k0 := 0) (i := 0) rfl 0 rfl (by decide +kernel) ?_
        refine s_iload_n (pc := 35) (k0 := 1) (i := 1) rfl 1 rfl (by decide +kernel) ?_
        refine s_iload (pc := 36) (i := 4) 4 rfl (by decide +kernel) ?_
        refine s_iconst (pc := 38) (n := 1) (v := (1 : Int32)) (by decide) (by decide +kernel) ?_
        refine s_iadd (pc := 39) (by decide +kernel) ?_
        have c9 := kp e7 c5 (by decide)
        refine s_cVi (pc := 40) [.int a1, .int (a4 + (1 : Int32))] (tX7_xOf a0 a1 (a4 + (1 : Int32)) g6) c9 cw_X7_174 rfl ⟨⟨Nat.le_of_ble_eq_true rfl, Nat.le_of_ble_eq_true rfl⟩, Nat.le_of_ble_eq_true rfl⟩ rfl (by decide +kernel) (fun w12 g10 e11 => ?_)
        refine s_aload_n (pc := 43) (k0 := 0) (i := 0) rfl 0 rfl (by decide +kernel) ?_
        refine s_iload_n (pc := 44) (k0 := 1) (i := 1) rfl 1 rfl (by decide +kernel) ?_
        refine s_iload (pc := 45) (i := 4) 4 rfl (by decide +kernel) ?_
        have c13 := kp e11 c9 (by decide)
        refine s_cVi (pc := 47) [.int a1, .int a4] (tX7_xOf a0 a1 a4 g10) c13 cw_X7_174 rfl ⟨⟨Nat.le_of_ble_eq_true rfl, Nat.le_of_ble_eq_true rfl⟩, Nat.le_of_ble_eq_true rfl⟩ rfl (by decide +kernel) (fun w16 g14 e15 => ?_)
        refine s_isub (pc := 50) (by decide +kernel) ?_
        refine s_i2l (pc := 51) (by decide +kernel) ?_
        refine s_nmJ (fun v17 => ?_)
        refine s_lstore (pc := 52) (L' := [(6, .long v17), (0, .ref a0), (1, .int a1), (2, .int a2), (3, .int a3), (4, .int a4), (5, .int a5)]) (i := 6) (by decide) rfl (by decide +kernel) ?_
        refine s_aload_n (pc := 54) (k0 := 0) (i := 0) rfl 1 rfl (by decide +kernel) ?_
        refine s_iload_n (pc := 55) (k0 := 1) (i := 1) rfl 2 rfl (by decide +kernel) ?_
        refine s_iload (pc := 56) (i := 4) 5 rfl (by decide +kernel) ?_
        refine s_iconst (pc := 58) (n := 1) (v := (1 : Int32)) (by decide) (by decide +kernel) ?_
        refine s_iadd (pc := 59) (by decide +kernel) ?_
        have c18 := kp e15 c13 (by decide)
        refine s_cVi (pc := 60) [.int a1, .int (a4 + (1 : Int32))] (tX7_yOf a0 a1 (a4 + (1 : Int32)) g14) c18 cw_X7_178 rfl ⟨⟨Nat.le_of_ble_eq_true rfl, Nat.le_of_ble_eq_true rfl⟩, Nat.le_of_ble_eq_true rfl⟩ rfl (by decide +kernel) (fun w21 g19 e20 => ?_)
        refine s_aload_n (pc := 63) (k0 := 0) (i := 0) rfl 1 rfl (by decide +kernel) ?_
        refine s_iload_n (pc := 64) (k0 := 1) (i := 1) rfl 2 rfl (by decide +kernel) ?_
        refine s_iload (pc := 65) (i := 4) 5 rfl (by decide +kernel) ?_
        have c22 := kp e20 c18 (by decide)
        refine s_cVi (pc := 67) [.int a1, .int a4] (tX7_yOf a0 a1 a4 g19) c22 cw_X7_178 rfl ⟨⟨Nat.le_of_ble_eq_true rfl, Nat.le_of_ble_eq_true rfl⟩, Nat.le_of_ble_eq_true rfl⟩ rfl (by decide +kernel) (fun w25 g23 e24 => ?_)
        refine s_isub (pc := 70) (by decide +kernel) ?_
        refine s_i2l (pc := 71) (by decide +kernel) ?_
        refine s_nmJ (fun v26 => ?_)
        refine s_lstore (pc := 72) (L' := [(8, .long v26), (6, .long v17), (0, .ref a0), (1, .int a1), (2, .int a2), (3, .int a3), (4, .int a4), (5, .int a5)]) (i := 8) (by decide) rfl (by decide +kernel) ?_
        refine s_aload_n (pc := 74) (k0 := 0) (i := 0) rfl 2 rfl (by decide +kernel) ?_
        refine s_iload_n (pc := 75) (k0 := 1) (i := 1) rfl 3 rfl (by decide +kernel) ?_
        refine s_iload (pc := 76) (i := 5) 7 rfl (by decide +kernel) ?_
        refine s_iconst (pc := 78) (n := 1) (v := (1 : Int32)) (by decide) (by decide +kernel) ?_
        refine s_iadd (pc := 79) (by decide +kernel) ?_
        have c27 := kp e24 c22 (by decide)
        refine s_cVi (pc := 80) [.int a1, .int (a5 + (1 : Int32))] (tX7_xOf a0 a1 (a5 + (1 : Int32)) g23) c27 cw_X7_174 rfl ⟨⟨Nat.le_of_ble_eq_true rfl, Nat.le_of_ble_eq_true rfl⟩, Nat.le_of_ble_eq_true rfl⟩ rfl (by decide +kernel) (fun w30 g28 e29 => ?_)
        refine s_aload_n (pc := 83) (k0 := 0) (i := 0) rfl 2 rfl (by decide +kernel) ?_
        refine s_iload_n (pc := 84) (k0 := 1) (i := 1) rfl 3 rfl (by decide +kernel) ?_
        refine s_iload (pc := 85) (i := 5) 7 rfl (by decide +kernel) ?_
        have c31 := kp e29 c27 (by decide)
        refine s_cVi (pc := 87) [.int a1, .int a5] (tX7_xOf a0 a1 a5 g28) c31 cw_X7_174 rfl ⟨⟨Nat.le_of_ble_eq_true rfl, Nat.le_of_ble_eq_true rfl⟩, Nat.le_of_ble_eq_true rfl⟩ rfl (by decide +kernel) (fun w34 g32 e33 => ?_)
        refine s_isub (pc := 90) (by decide +kernel) ?_
        refine s_i2l (pc := 91) (by decide +kernel) ?_
        refine s_nmJ (fun v35 => ?_)
        refine s_lstore (pc := 92) (L' := [(10, .long v35), (8, .long v26), (6, .long v17), (0, .ref a0), (1, .int a1), (2, .int a2), (3, .int a3), (4, .int a4), (5, .int a5)]) (i := 10) (by decide) rfl (by decide +kernel) ?_
        refine s_aload_n (pc := 94) (k0 := 0) (i := 0) rfl 3 rfl (by decide +kernel) ?_
        refine s_iload_n (pc := 95) (k0 := 1) (i := 1) rfl 4 rfl (by decide +kernel) ?_
        refine s_iload (pc := 96) (i := 5) 8 rfl (by decide +kernel) ?_
        refine s_iconst (pc := 98) (n := 1) (v := (1 : Int32)) (by decide) (by decide +kernel) ?_
        refine s_iadd (pc := 99) (by decide +kernel) ?_
        have c36 := kp e33 c31 (by decide)
        refine s_cVi (pc := 100) [.int a1, .int (a5 + (1 : Int32))] (tX7_yOf a0 a1 (a5 + (1 : Int32)) g32) c36 cw_X7_178 rfl ⟨⟨Nat.le_of_ble_eq_true rfl, Nat.le_of_ble_eq_true rfl⟩, Nat.le_of_ble_eq_true rfl⟩ rfl (by decide +kernel) (fun w39 g37 e38 => ?_)
        refine s_aload_n (pc := 103) (k0 := 0) (i := 0) rfl 3 rfl (by decide +kernel) ?_
        refine s_iload_n (pc := 104) (k0 := 1) (i := 1) rfl 4 rfl (by decide +kernel) ?_
        refine s_iload (pc := 105) (i := 5) 8 rfl (by decide +kernel) ?_
        have c40 := kp e38 c36 (by decide)
        refine s_cVi (pc := 107) [.int a1, .int a5] (tX7_yOf a0 a1 a5 g37) c40 cw_X7_178 rfl ⟨⟨Nat.le_of_ble_eq_true rfl, Nat.le_of_ble_eq_true rfl⟩, Nat.le_of_ble_eq_true rfl⟩ rfl (by decide +kernel) (fun w43 g41 e42 => ?_)
        refine s_isub (pc := 110) (by decide +kernel) ?_
        refine s_i2l (pc := 111) (by decide +kernel) ?_
        refine s_nmJ (fun v44 => ?_)
        refine s_lstore (pc := 112) (L' := [(12, .long v44), (10, .long v35), (8, .long v26), (6, .long v17), (0, .ref a0), (1, .int a1), (2, .int a2), (3, .int a3), (4, .int a4), (5, .int a5)]) (i := 12) (by decide) rfl (by decide +kernel) ?_
        refine s_iload_n (pc := 114) (k0 := 3) (i := 3) rfl 7 rfl (by decide +kernel) ?_
        refine s_iload_n (pc := 115) (k0 := 2) (i := 2) rfl 6 rfl (by decide +kernel) ?_
        refine s_if_eq (pc := 116) (off := 25) 141 (by decide +kernel) (by decide) (fun _ => ?_) (fun _ => ?_)
        · refine s_lload (pc := 141) (i := 12) 0 rfl (by decide +kernel) ?_
          refine s_lload (pc := 143) (i := 6) 3 rfl (by decide +kernel) ?_
          refine s_lmul (pc := 145) (by decide +kernel) ?_
          refine s_lload (pc := 146) (i := 8) 2 rfl (by decide +kernel) ?_
          refine s_lload (pc := 148) (i := 10) 1 rfl (by decide +kernel) ?_
          refine s_lmul (pc := 150) (by decide +kernel) ?_
          refine s_lcmp (pc := 151) (by decide +kernel) ?_
          refine s_if_gt (pc := 152) (off := 7) 159 (by decide +kernel) (by decide) (fun _ => ?_) (fun _ => ?_)
          · refine s_iconst (pc := 159) (n := 0) (v := (0 : Int32)) (by decide) (by decide +kernel) ?_
            refine S_sub [4, 5, 6, 9] rfl ?_
            exact pX7_falls_b160 hr8 (0 : Int32) a3 a0 a1 a2 a5 g41
          · refine s_iconst (pc := 155) (n := 1) (v := (1 : Int32)) (by decide) (by decide +kernel) ?_
            refine s_goto (pc := 156) (off := 4) 160 (by decide +kernel) (by decide) ?_
            refine S_sub [4, 5, 6, 9] rfl ?_
            exact pX7_falls_b160 hr8 (1 : Int32) a3 a0 a1 a2 a5 g41
        · refine s_lload (pc := 119) (i := 12) 0 rfl (by decide +kernel) ?_
          refine s_lload (pc := 121) (i := 6) 3 rfl (by decide +kernel) ?_
          refine s_lmul (pc := 123) (by decide +kernel) ?_
          refine s_lload (pc := 124) (i := 8) 2 rfl (by decide +kernel) ?_
          refine s_lload (pc := 126) (i := 10) 1 rfl (by decide +kernel) ?_
          refine s_lmul (pc := 128) (by decide +kernel) ?_
          refine s_lcmp (pc := 129) (by decide +kernel) ?_
          refine s_if_ge (pc := 130) (off := 7) 137 (by decide +kernel) (by decide) (fun _ => ?_) (fun _ => ?_)
          · refine s_iconst (pc := 137) (n := 0) (v := (0 : Int32)) (by decide) (by decide +kernel) ?_
            refine s_goto (pc := 138) (off := 22) 160 (by decide +kernel) (by decide) ?_
            refine S_sub [4, 5, 6, 9] rfl ?_
            exact pX7_falls_b160 hr8 (0 : Int32) a3 a0 a1 a2 a5 g41
          · refine s_iconst (pc := 133) (n := 1) (v := (1 : Int32)) (by decide) (by decide +kernel) ?_
            refine s_goto (pc := 134) (off := 26) 160 (by decide +kernel) (by decide) ?_
            refine S_sub [4, 5, 6, 9] rfl ?_
            exact pX7_falls_b160 hr8 (1 : Int32) a3 a0 a1 a2 a5 g41
theorem pX7_falls_l8 {h0 : xH}   : ∀ (k : Nat)  (a0 : Nat) (a1 : Int32) (a2 : Int32) (a3 : Int32) (a4 : Int32) (a5 : Int32) (h : xH), S emI kX7_falls h0 8 [(0, .ref a0), (1, .int a1), (2, .int a2), (3, .int a3), (4, .int a4), (5, .int a5)] [] h (fX7_falls_l8  k  a0 a1 a2 a3 a4 a5 h) := by
  intro k
  induction k with
  | zero => intros; exact S_none
  | succ k ih => intro  a0 a1 a2 a3 a4 a5 h; exact pX7_falls_b8 ih  a0 a1 a2 a3 a4 a5 h
theorem pX7_falls_e    (a0 : Nat) (a1 : Int32) (a2 : Int32) (h : xH) : S emI kX7_falls h 0 [(0, .ref a0), (1, .int a1), (2, .int a2)] [] h (fX7_falls  a0 a1 a2 h) := by
  unfold fX7_falls
  refine s_iconst (pc := 0) (n := 0) (v := (0 : Int32)) (by decide) (by decide +kernel) ?_
  refine s_nmI (fun v1 => ?_)
  refine s_istore_n (pc := 1) (L' := [(3, .int v1), (0, .ref a0), (1, .int a1), (2, .int a2)]) (k0 := 3) (i := 3) rfl (by decide) rfl (by decide +kernel) ?_
  refine s_iconst (pc := 2) (n := -1) (v := (-1 : Int32)) (by decide) (by decide +kernel) ?_
  refine s_nmI (fun v2 => ?_)
  refine s_istore (pc := 3) (L' := [(4, .int v2), (3, .int v1), (0, .ref a0), (1, .int a1), (2, .int a2)]) (i := 4) (by decide) rfl (by decide +kernel) ?_
  refine s_iconst (pc := 5) (n := 0) (v := (0 : Int32)) (by decide) (by decide +kernel) ?_
  refine s_nmI (fun v3 => ?_)
  refine s_istore (pc := 6) (L' := [(5, .int v3), (4, .int v2), (3, .int v1), (0, .ref a0), (1, .int a1), (2, .int a2)]) (i := 5) (by decide) rfl (by decide +kernel) ?_
  refine S_sub [3, 4, 5, 2, 1, 0] rfl ?_
  exact pX7_falls_l8 FU a0 a1 a2 v1 v2 v3 h
theorem tX7_falls (a0 : Nat) (a1 : Int32) (a2 : Int32) (h : xH) : Ct yX7_falls kX7_falls emI [.ref a0, .int a1, .int a2] h (fX7_falls a0 a1 a2 h) := Ct_of (by decide +kernel) rfl rfl rfl (Nat.le_of_ble_eq_true rfl) rfl (pX7_falls_e a0 a1 a2 h)
def fX7_wide_b42 (r4 : Nat → Int32 → Int32 → Int32 → xH → Option (Int32 × xH)) (s0 : Int32) (s1 : Int32) (a0 : Nat) (a1 : Int32) (a3 : Int32) (h : xH) : Option (Int32 × xH) :=
  lt (s1 + s0) (fun v1 =>
  lt (a3 + (1 : Int32)) (fun v2 =>
  r4 a0 a1 v1 v2 h))
def fX7_wide_b4 (r4 : Nat → Int32 → Int32 → Int32 → xH → Option (Int32 × xH))  (a0 : Nat) (a1 : Int32) (a2 : Int32) (a3 : Int32) (h : xH) : Option (Int32 × xH) :=
  if kc h a0 = 7 then
  bd (fX7_many a0 a1 h) (fun w4 g2 =>
  if w4 ≤ a3 then (
  some (a2, g2))
  else (
  bd (fX7_goes a0 a1 a3 g2) (fun w8 g6 =>
  if w8 = 0 then (
  fX7_wide_b42 r4 (0 : Int32) a2 a0 a1 a3 g6)
  else (
  bd (fX7_xOf a0 a1 (a3 + (1 : Int32)) g6) (fun w12 g10 =>
  bd (fX7_xOf a0 a1 a3 g10) (fun w16 g14 =>
  fX7_wide_b42 r4 (w12 - w16) a2 a0 a1 a3 g14))))))
  else none
def fX7_wide_l4  : Nat → Nat → Int32 → Int32 → Int32 → xH → Option (Int32 × xH)
  | 0 => fun _ _ _ _ _ => none
  | k + 1 => fX7_wide_b4 (fX7_wide_l4  k)
def fX7_wide   (a0 : Nat) (a1 : Int32) (h : xH) : Option (Int32 × xH) :=
  lt (0 : Int32) (fun v1 =>
  lt (0 : Int32) (fun v2 =>
  fX7_wide_l4 FU a0 a1 v1 v2 h))
theorem pX7_wide_b42 {h0 : xH} {r4 : Nat → Int32 → Int32 → Int32 → xH → Option (Int32 × xH)} (hr4 : ∀  (a0 : Nat) (a1 : Int32) (a2 : Int32) (a3 : Int32) (g : xH), S emI kX7_wide h0 4 [(0, .ref a0), (1, .int a1), (2, .int a2), (3, .int a3)] [] g (r4  a0 a1 a2 a3 g)) (s0 : Int32) (s1 : Int32) (a0 : Nat) (a1 : Int32) (a3 : Int32) (h : xH) : S emI kX7_wide h0 42 [(0, .ref a0), (1, .int a1), (3, .int a3)] [.int s0, .int s1] h (fX7_wide_b42 r4 s0 s1 a0 a1 a3 h) := by
  unfold fX7_wide_b42
  refine s_iadd (pc := 42) (by decide +kernel) ?_
  refine s_nmI (fun v1 => ?_)
  refine s_istore_n (pc := 43) (L' := [(2, .int v1), (0, .ref a0), (1, .int a1), (3, .int a3)]) (k0 := 2) (i := 2) rfl (by decide) rfl (by decide +kernel) ?_
  refine s_iinc (pc := 44) (L' := [(3, .int (a3 + (1 : Int32))), (2, .int v1), (0, .ref a0), (1, .int a1)]) (i := 3) (n := 1) 3 rfl rfl (by decide) rfl (by decide +kernel) ?_
  refine s_nmI0 (e := a3 + (1 : Int32)) (L := fun v2 => [(3, .int v2), (2, .int v1), (0, .ref a0), (1, .int a1)]) (fun v2 => ?_)
  refine s_goto (pc := 47) (off := -43) 4 (by decide +kernel) (by decide) ?_
  refine S_sub [2, 3, 1, 0] rfl ?_
  exact hr4 a0 a1 v1 v2 h
theorem pX7_wide_b4 {h0 : xH} {r4 : Nat → Int32 → Int32 → Int32 → xH → Option (Int32 × xH)} (hr4 : ∀  (a0 : Nat) (a1 : Int32) (a2 : Int32) (a3 : Int32) (g : xH), S emI kX7_wide h0 4 [(0, .ref a0), (1, .int a1), (2, .int a2), (3, .int a3)] [] g (r4  a0 a1 a2 a3 g))  (a0 : Nat) (a1 : Int32) (a2 : Int32) (a3 : Int32) (h : xH) : S emI kX7_wide h0 4 [(0, .ref a0), (1, .int a1), (2, .int a2), (3, .int a3)] [] h (fX7_wide_b4 r4 a0 a1 a2 a3 h) := by
  unfold fX7_wide_b4
  refine s_iload_n (pc := 4) (k0 := 3) (i := 3) rfl 3 rfl (by decide +kernel) ?_
  refine s_aload_n (pc := 5) (k0 := 0) (i := 0) rfl 0 rfl (by decide +kernel) ?_
  refine s_iload_n (pc := 6) (k0 := 1) (i := 1) rfl 1 rfl (by decide +kernel) ?_
  refine S_gd (fun c1 => ?_)
  refine s_cVi (pc := 7) [.int a1] (tX7_many a0 a1 h) c1 cw_X7_168 rfl ⟨⟨Nat.le_of_ble_eq_true rfl, Nat.le_of_ble_eq_true rfl⟩, Nat.le_of_ble_eq_true rfl⟩ rfl (by decide +kernel) (fun w4 g2 e3 => ?_)
  refine s_icmp_ge (pc := 10) (off := 40) 50 (by decide +kernel) (by decide) (fun _ => ?_) (fun _ => ?_)
  · refine s_iload_n (pc := 50) (k0 := 2) (i := 2) rfl 2 rfl (by decide +kernel) ?_
    exact s_iret (pc := 51) rfl (by decide +kernel)
  · refine s_iload_n (pc := 13) (k0 := 2) (i := 2) rfl 2 rfl (by decide +kernel) ?_
    refine s_aload_n (pc := 14) (k0 := 0) (i := 0) rfl 0 rfl (by decide +kernel) ?_
    refine s_iload_n (pc := 15) (k0 := 1) (i := 1) rfl 1 rfl (by decide +kernel) ?_
    refine s_iload_n (pc := 16) (k0 := 3) (i := 3) rfl 3 rfl (by decide +kernel) ?_
    have c5 := kp e3 c1 (by decide)
    refine s_cVi (pc := 17) [.int a1, .int a3] (tX7_goes a0 a1 a3 g2) c5 cw_X7_154 rfl ⟨⟨Nat.le_of_ble_eq_true rfl, Nat.le_of_ble_eq_true rfl⟩, Nat.le_of_ble_eq_true rfl⟩ rfl (by decide +kernel) (fun w8 g6 e7 => ?_)
    refine s_if_eq (pc := 20) (off := 21) 41 (by decide +kernel) (by decide) (fun _ => ?_) (fun _ => ?_)
    · refine s_iconst (pc := 41) (n := 0) (v := (0 : Int32)) (by decide) (by decide +kernel) ?_
      refine S_sub [0, 1, 3] rfl ?_
      exact pX7_wide_b42 hr4 (0 : Int32) a2 a0 a1 a3 g6
    · refine s_aload_n (pc := 23) (k0 := 0) (i := 0) rfl 0 rfl (by decide +kernel) ?_
      refine s_iload_n (pc := 24) (k0 := 1) (i := 1) rfl 1 rfl (by decide +kernel) ?_
      refine s_iload_n (pc := 25) (k0 := 3) (i := 3) rfl 3 rfl (by decide +kernel) ?_
      refine s_iconst (pc := 26) (n := 1) (v := (1 : Int32)) (by decide) (by decide +kernel) ?_
      refine s_iadd (pc := 27) (by decide +kernel) ?_
      have c9 := kp e7 c5 (by decide)
      refine s_cVi (pc := 28) [.int a1, .int (a3 + (1 : Int32))] (tX7_xOf a0 a1 (a3 + (1 : Int32)) g6) c9 cw_X7_174 rfl ⟨⟨Nat.le_of_ble_eq_true rfl, Nat.le_of_ble_eq_true rfl⟩, Nat.le_of_ble_eq_true rfl⟩ rfl (by decide +kernel) (fun w12 g10 e11 => ?_)
      refine s_aload_n (pc := 31) (k0 := 0) (i := 0) rfl 0 rfl (by decide +kernel) ?_
      refine s_iload_n (pc := 32) (k0 := 1) (i := 1) rfl 1 rfl (by decide +kernel) ?_
      refine s_iload_n (pc := 33) (k0 := 3) (i := 3) rfl 3 rfl (by decide +kernel) ?_
      have c13 := kp e11 c9 (by decide)
      refine s_cVi (pc := 34) [.int a1, .int a3] (tX7_xOf a0 a1 a3 g10) c13 cw_X7_174 rfl ⟨⟨Nat.le_of_ble_eq_true rfl, Nat.le_of_ble_eq_true rfl⟩, Nat.le_of_ble_eq_true rfl⟩ rfl (by decide +kernel) (fun w16 g14 e15 => ?_)
      refine s_isub (pc := 37) (by decide +kernel) ?_
      refine s_goto (pc := 38) (off := 4) 42 (by decide +kernel) (by decide) ?_
      refine S_sub [0, 1, 3] rfl ?_
      exact pX7_wide_b42 hr4 (w12 - w16) a2 a0 a1 a3 g14
theorem pX7_wide_l4 {h0 : xH}   : ∀ (k : Nat)  (a0 : Nat) (a1 : Int32) (a2 : Int32) (a3 : Int32) (h : xH), S emI kX7_wide h0 4 [(0, .ref a0), (1, .int a1), (2, .int a2), (3, .int a3)] [] h (fX7_wide_l4  k  a0 a1 a2 a3 h) := by
  intro k
  induction k with
  | zero => intros; exact S_none
  | succ k ih => intro  a0 a1 a2 a3 h; exact pX7_wide_b4 ih  a0 a1 a2 a3 h
theorem pX7_wide_e    (a0 : Nat) (a1 : Int32) (h : xH) : S emI kX7_wide h 0 [(0, .ref a0), (1, .int a1)] [] h (fX7_wide  a0 a1 h) := by
  unfold fX7_wide
  refine s_iconst (pc := 0) (n := 0) (v := (0 : Int32)) (by decide) (by decide +kernel) ?_
  refine s_nmI (fun v1 => ?_)
  refine s_istore_n (pc := 1) (L' := [(2, .int v1), (0, .ref a0), (1, .int a1)]) (k0 := 2) (i := 2) rfl (by decide) rfl (by decide +kernel) ?_
  refine s_iconst (pc := 2) (n := 0) (v := (0 : Int32)) (by decide) (by decide +kernel) ?_
  refine s_nmI (fun v2 => ?_)
  refine s_istore_n (pc := 3) (L' := [(3, .int v2), (2, .int v1), (0, .ref a0), (1, .int a1)]) (k0 := 3) (i := 3) rfl (by decide) rfl (by decide +kernel) ?_
  refine S_sub [2, 3, 1, 0] rfl ?_
  exact pX7_wide_l4 FU a0 a1 v1 v2 h
theorem tX7_wide (a0 : Nat) (a1 : Int32) (h : xH) : Ct yX7_wide kX7_wide emI [.ref a0, .int a1] h (fX7_wide a0 a1 h) := Ct_of (by decide +kernel) rfl rfl rfl (Nat.le_of_ble_eq_true rfl) rfl (pX7_wide_e a0 a1 h)
def fX7_of_b184    (h : xH) : Option (Int32 × xH) :=
  some ((1 : Int32), h)
def fX7_of_b35   (a0 : Nat) (a1 : Int32) (a2 : Int32) (h : xH) : Option (Int32 × xH) :=
  if kc h a0 = 7 then
  bd (fX7_many a0 a1 h) (fun w4 g2 =>
  if a2 = (0 : Int32) then
  (some (w4, g2))
  else (
  if a2 = (1 : Int32) then
  (bd (fX7_linesIn a0 a1 g2) (fun w48 g46 =>
  some ((w4 - w48), g46)))
  else (
  if a2 = (2 : Int32) then
  (bd (fX7_linesIn a0 a1 g2) (fun w44 g42 =>
  some (w44, g42)))
  else (
  if a2 = (3 : Int32) then
  (bd (fX7_jumps a0 a1 g2) (fun w40 g38 =>
  some (w40, g38)))
  else (
  if a2 = (4 : Int32) then
  (bd (fX7_linesIn a0 a1 g2) (fun w32 g30 =>
  if (w4 - w32) = (1 : Int32) then (
  bd (fX7_falls a0 a1 (0 : Int32) g30) (fun w36 g34 =>
  if w36 = 0 then (
  some ((1 : Int32), g34))
  else (
  some ((0 : Int32), g34))))
  else (
  some ((0 : Int32), g30))))
  else (
  if a2 = (5 : Int32) then
  (bd (fX7_xOf a0 a1 (0 : Int32) g2) (fun w28 g26 =>
  some (w28, g26)))
  else (
  if a2 = (6 : Int32) then
  (bd (fX7_xOf a0 a1 (w4 - (1 : Int32)) g2) (fun w24 g22 =>
  some (w24, g22)))
  else (
  if a2 = (7 : Int32) then
  (bd (fX7_wide a0 a1 g2) (fun w20 g18 =>
  some (w20, g18)))
  else (
  if a2 = (8 : Int32) then
  (bd (fX7_isStrict a0 a1 (1 : Int32) g2) (fun w12 g10 =>
  if w12 = 0 then (
  bd (fX7_isStrict a0 a1 (-1 : Int32) g10) (fun w16 g14 =>
  if w16 = 0 then (
  some ((0 : Int32), g14))
  else (
  fX7_of_b184 g14)))
  else (
  fX7_of_b184 g10)))
  else (
  if a2 = (9 : Int32) then
  (bd (fX7_falls a0 a1 (1 : Int32) g2) (fun w8 g6 =>
  some (w8, g6)))
  else (
  (some ((-2147483648 : Int32), g2)))))))))))))
  else none
def fX7_of_b23   (a0 : Nat) (a1 : Int32) (a2 : Int32) (h : xH) : Option (Int32 × xH) :=
  if kc h a0 = 7 then
  bd (fX7_many a0 a1 h) (fun w4 g2 =>
  if w4 = 0 then (
  some ((-2147483648 : Int32), g2))
  else (
  fX7_of_b35 a0 a1 a2 g2))
  else none
def fX7_of   (a0 : Nat) (a1 : Int32) (a2 : Int32) (h : xH) : Option (Int32 × xH) :=
  if kc h a0 = 7 then
  lt (sI h a0 0 (0 : Int32)) (fun g2 =>
  bd (fX7_isStore a1 g2) (fun w6 g4 =>
  if w6 = 0 then (
  some ((-2147483648 : Int32), g4))
  else (
  if a2 = (5 : Int32) then (
  fX7_of_b23 a0 a1 a2 g4)
  else (
  if a2 = (6 : Int32) then (
  fX7_of_b23 a0 a1 a2 g4)
  else (
  fX7_of_b35 a0 a1 a2 g4)))))
  else none
theorem pX7_of_b184 {h0 : xH}     (h : xH) : S emI kX7_of h0 184 [] [] h (fX7_of_b184  h) := by
  unfold fX7_of_b184
  refine s_iconst (pc := 184) (n := 1) (v := (1 : Int32)) (by decide) (by decide +kernel) ?_
  refine s_goto (pc := 185) (off := 4) 189 (by decide +kernel) (by decide) ?_
  exact s_iret (pc := 189) rfl (by decide +kernel)
theorem pX7_of_b35 {h0 : xH}    (a0 : Nat) (a1 : Int32) (a2 : Int32) (h : xH) : S emI kX7_of h0 35 [(0, .ref a0), (1, .int a1), (2, .int a2)] [] h (fX7_of_b35  a0 a1 a2 h) := by
  unfold fX7_of_b35
  refine s_aload_n (pc := 35) (k0 := 0) (i := 0) rfl 0 rfl (by decide +kernel) ?_
  refine s_iload_n (pc := 36) (k0 := 1) (i := 1) rfl 1 rfl (by decide +kernel) ?_
  refine S_gd (fun c1 => ?_)
  refine s_cVi (pc := 37) [.int a1] (tX7_many a0 a1 h) c1 cw_X7_168 rfl ⟨⟨Nat.le_of_ble_eq_true rfl, Nat.le_of_ble_eq_true rfl⟩, Nat.le_of_ble_eq_true rfl⟩ rfl (by decide +kernel) (fun w4 g2 e3 => ?_)
  refine s_istore_n (pc := 40) (L' := [(3, .int w4), (0, .ref a0), (1, .int a1), (2, .int a2)]) (k0 := 3) (i := 3) rfl (by decide) rfl (by decide +kernel) ?_
  refine s_iload_n (pc := 41) (k0 := 2) (i := 2) rfl 3 rfl (by decide +kernel) ?_
  refine S_ite (fun e => ?_) (fun ne0 => ?_)
  · refine s_tableIn (pc := 42) (dflt := 155) (lo := 0) (hi := 9) (offs := #[54, 56, 64, 70, 76, 102, 109, 118, 124, 148]) (len := 54) (off := 54) 96 (by decide +kernel) (by rw [e]; decide) (by rw [e]; decide) (by rw [e]; rfl) (by decide) ?_
    refine s_iload_n (pc := 96) (k0 := 3) (i := 3) rfl 0 rfl (by decide +kernel) ?_
    exact s_iret (pc := 97) rfl (by decide +kernel)
  · refine S_ite (fun e => ?_) (fun ne1 => ?_)
    · refine s_tableIn (pc := 42) (dflt := 155) (lo := 0) (hi := 9) (offs := #[54, 56, 64, 70, 76, 102, 109, 118, 124, 148]) (len := 54) (off := 56) 98 (by decide +kernel) (by rw [e]; decide) (by rw [e]; decide) (by rw [e]; rfl) (by decide) ?_
      refine s_iload_n (pc := 98) (k0 := 3) (i := 3) rfl 0 rfl (by decide +kernel) ?_
      refine s_aload_n (pc := 99) (k0 := 0) (i := 0) rfl 1 rfl (by decide +kernel) ?_
      refine s_iload_n (pc := 100) (k0 := 1) (i := 1) rfl 2 rfl (by decide +kernel) ?_
      have c45 := kp e3 c1 (by decide)
      refine s_cVi (pc := 101) [.int a1] (tX7_linesIn a0 a1 g2) c45 cw_X7_363 rfl ⟨⟨Nat.le_of_ble_eq_true rfl, Nat.le_of_ble_eq_true rfl⟩, Nat.le_of_ble_eq_true rfl⟩ rfl (by decide +kernel) (fun w48 g46 e47 => ?_)
      refine s_isub (pc := 104) (by decide +kernel) ?_
      exact s_iret (pc := 105) rfl (by decide +kernel)
    · refine S_ite (fun e => ?_) (fun ne2 => ?_)
      · refine s_tableIn (pc := 42) (dflt := 155) (lo := 0) (hi := 9) (offs := #[54, 56, 64, 70, 76, 102, 109, 118, 124, 148]) (len := 54) (off := 64) 106 (by decide +kernel) (by rw [e]; decide) (by rw [e]; decide) (by rw [e]; rfl) (by decide) ?_
        refine s_aload_n (pc := 106) (k0 := 0) (i := 0) rfl 1 rfl (by decide +kernel) ?_
        refine s_iload_n (pc := 107) (k0 := 1) (i := 1) rfl 2 rfl (by decide +kernel) ?_
        have c41 := kp e3 c1 (by decide)
        refine s_cVi (pc := 108) [.int a1] (tX7_linesIn a0 a1 g2) c41 cw_X7_363 rfl ⟨⟨Nat.le_of_ble_eq_true rfl, Nat.le_of_ble_eq_true rfl⟩, Nat.le_of_ble_eq_true rfl⟩ rfl (by decide +kernel) (fun w44 g42 e43 => ?_)
        exact s_iret (pc := 111) rfl (by decide +kernel)
      · refine S_ite (fun e => ?_) (fun ne3 => ?_)
        · refine s_tableIn (pc := 42) (dflt := 155) (lo := 0) (hi := 9) (offs := #[54, 56, 64, 70, 76, 102, 109, 118, 124, 148]) (len := 54) (off := 70) 112 (by decide +kernel) (by rw [e]; decide) (by rw [e]; decide) (by rw [e]; rfl) (by decide) ?_
          refine s_aload_n (pc := 112) (k0 := 0) (i := 0) rfl 1 rfl (by decide +kernel) ?_
          refine s_iload_n (pc := 113) (k0 := 1) (i := 1) rfl 2 rfl (by decide +kernel) ?_
          have c37 := kp e3 c1 (by decide)
          refine s_cVi (pc := 114) [.int a1] (tX7_jumps a0 a1 g2) c37 cw_X7_366 rfl ⟨⟨Nat.le_of_ble_eq_true rfl, Nat.le_of_ble_eq_true rfl⟩, Nat.le_of_ble_eq_true rfl⟩ rfl (by decide +kernel) (fun w40 g38 e39 => ?_)
          exact s_iret (pc := 117) rfl (by decide +kernel)
        · refine S_ite (fun e => ?_) (fun ne4 => ?_)
          · refine s_tableIn (pc := 42) (dflt := 155) (lo := 0) (hi := 9) (offs := #[54, 56, 64, 70, 76, 102, 109, 118, 124, 148]) (len := 54) (off := 76) 118 (by decide +kernel) (by rw [e]; decide) (by rw [e]; decide) (by rw [e]; rfl) (by decide) ?_
            refine s_iload_n (pc := 118) (k0 := 3) (i := 3) rfl 0 rfl (by decide +kernel) ?_
            refine s_aload_n (pc := 119) (k0 := 0) (i := 0) rfl 1 rfl (by decide +kernel) ?_
            refine s_iload_n (pc := 120) (k0 := 1) (i := 1) rfl 2 rfl (by decide +kernel) ?_
            have c29 := kp e3 c1 (by decide)
            refine s_cVi (pc := 121) [.int a1] (tX7_linesIn a0 a1 g2) c29 cw_X7_363 rfl ⟨⟨Nat.le_of_ble_eq_true rfl, Nat.le_of_ble_eq_true rfl⟩, Nat.le_of_ble_eq_true rfl⟩ rfl (by decide +kernel) (fun w32 g30 e31 => ?_)
            refine s_isub (pc := 124) (by decide +kernel) ?_
            refine s_iconst (pc := 125) (n := 1) (v := (1 : Int32)) (by decide) (by decide +kernel) ?_
            refine s_icmp_ne (pc := 126) (off := 16) 142 (by decide +kernel) (by decide) (fun _ => ?_) (fun _ => ?_)
            · refine s_aload_n (pc := 129) (k0 := 0) (i := 0) rfl 1 rfl (by decide +kernel) ?_
              refine s_iload_n (pc := 130) (k0 := 1) (i := 1) rfl 2 rfl (by decide +kernel) ?_
              refine s_iconst (pc := 131) (n := 0) (v := (0 : Int32)) (by decide) (by decide +kernel) ?_
              have c33 := kp e31 c29 (by decide)
              refine s_cVi (pc := 132) [.int a1, .int (0 : Int32)] (tX7_falls a0 a1 (0 : Int32) g30) c33 cw_X7_369 rfl ⟨⟨Nat.le_of_ble_eq_true rfl, Nat.le_of_ble_eq_true rfl⟩, Nat.le_of_ble_eq_true rfl⟩ rfl (by decide +kernel) (fun w36 g34 e35 => ?_)
              refine s_if_ne (pc := 135) (off := 7) 142 (by decide +kernel) (by decide) (fun _ => ?_) (fun _ => ?_)
              · refine s_iconst (pc := 138) (n := 1) (v := (1 : Int32)) (by decide) (by decide +kernel) ?_
                refine s_goto (pc := 139) (off := 4) 143 (by decide +kernel) (by decide) ?_
                exact s_iret (pc := 143) rfl (by decide +kernel)
              · refine s_iconst (pc := 142) (n := 0) (v := (0 : Int32)) (by decide) (by decide +kernel) ?_
                exact s_iret (pc := 143) rfl (by decide +kernel)
            · refine s_iconst (pc := 142) (n := 0) (v := (0 : Int32)) (by decide) (by decide +kernel) ?_
              exact s_iret (pc := 143) rfl (by decide +kernel)
          · refine S_ite (fun e => ?_) (fun ne5 => ?_)
            · refine s_tableIn (pc := 42) (dflt := 155) (lo := 0) (hi := 9) (offs := #[54, 56, 64, 70, 76, 102, 109, 118, 124, 148]) (len := 54) (off := 102) 144 (by decide +kernel) (by rw [e]; decide) (by rw [e]; decide) (by rw [e]; rfl) (by decide) ?_
              refine s_aload_n (pc := 144) (k0 := 0) (i := 0) rfl 1 rfl (by decide +kernel) ?_
              refine s_iload_n (pc := 145) (k0 := 1) (i := 1) rfl 2 rfl (by decide +kernel) ?_
              refine s_iconst (pc := 146) (n := 0) (v := (0 : Int32)) (by decide) (by decide +kernel) ?_
              have c25 := kp e3 c1 (by decide)
              refine s_cVi (pc := 147) [.int a1, .int (0 : Int32)] (tX7_xOf a0 a1 (0 : Int32) g2) c25 cw_X7_174 rfl ⟨⟨Nat.le_of_ble_eq_true rfl, Nat.le_of_ble_eq_true rfl⟩, Nat.le_of_ble_eq_true rfl⟩ rfl (by decide +kernel) (fun w28 g26 e27 => ?_)
              exact s_iret (pc := 150) rfl (by decide +kernel)
            · refine S_ite (fun e => ?_) (fun ne6 => ?_)
              · refine s_tableIn (pc := 42) (dflt := 155) (lo := 0) (hi := 9) (offs := #[54, 56, 64, 70, 76, 102, 109, 118, 124, 148]) (len := 54) (off := 109) 151 (by decide +kernel) (by rw [e]; decide) (by rw [e]; decide) (by rw [e]; rfl) (by decide) ?_
                refine s_aload_n (pc := 151) (k0 := 0) (i := 0) rfl 1 rfl (by decide +kernel) ?_
                refine s_iload_n (pc := 152) (k0 := 1) (i := 1) rfl 2 rfl (by decide +kernel) ?_
                refine s_iload_n (pc := 153) (k0 := 3) (i := 3) rfl 0 rfl (by decide +kernel) ?_
                refine s_iconst (pc := 154) (n := 1) (v := (1 : Int32)) (by decide) (by decide +kernel) ?_
                refine s_isub (pc := 155) (by decide +kernel) ?_
                have c21 := kp e3 c1 (by decide)
                refine s_cVi (pc := 156) [.int a1, .int (w4 - (1 : Int32))] (tX7_xOf a0 a1 (w4 - (1 : Int32)) g2) c21 cw_X7_174 rfl ⟨⟨Nat.le_of_ble_eq_true rfl, Nat.le_of_ble_eq_true rfl⟩, Nat.le_of_ble_eq_true rfl⟩ rfl (by decide +kernel) (fun w24 g22 e23 => ?_)
                exact s_iret (pc := 159) rfl (by decide +kernel)
              · refine S_ite (fun e => ?_) (fun ne7 => ?_)
                · refine s_tableIn (pc := 42) (dflt := 155) (lo := 0) (hi := 9) (offs := #[54, 56, 64, 70, 76, 102, 109, 118, 124, 148]) (len := 54) (off := 118) 160 (by decide +kernel) (by rw [e]; decide) (by rw [e]; decide) (by rw [e]; rfl) (by decide) ?_
                  refine s_aload_n (pc := 160) (k0 := 0) (i := 0) rfl 1 rfl (by decide +kernel) ?_
                  refine s_iload_n (pc := 161) (k0 := 1) (i := 1) rfl 2 rfl (by decide +kernel) ?_
                  have c17 := kp e3 c1 (by decide)
                  refine s_cVi (pc := 162) [.int a1] (tX7_wide a0 a1 g2) c17 cw_X7_373 rfl ⟨⟨Nat.le_of_ble_eq_true rfl, Nat.le_of_ble_eq_true rfl⟩, Nat.le_of_ble_eq_true rfl⟩ rfl (by decide +kernel) (fun w20 g18 e19 => ?_)
                  exact s_iret (pc := 165) rfl (by decide +kernel)
                · refine S_ite (fun e => ?_) (fun ne8 => ?_)
                  · refine s_tableIn (pc := 42) (dflt := 155) (lo := 0) (hi := 9) (offs := #[54, 56, 64, 70, 76, 102, 109, 118, 124, 148]) (len := 54) (off := 124) 166 (by decide +kernel) (by rw [e]; decide) (by rw [e]; decide) (by rw [e]; rfl) (by decide) ?_
                    refine s_aload_n (pc := 166) (k0 := 0) (i := 0) rfl 1 rfl (by decide +kernel) ?_
                    refine s_iload_n (pc := 167) (k0 := 1) (i := 1) rfl 2 rfl (by decide +kernel) ?_
                    refine s_iconst (pc := 168) (n := 1) (v := (1 : Int32)) (by decide) (by decide +kernel) ?_
                    have c9 := kp e3 c1 (by decide)
                    refine s_cVi (pc := 169) [.int a1, .int (1 : Int32)] (tX7_isStrict a0 a1 (1 : Int32) g2) c9 cw_X7_263 rfl ⟨⟨Nat.le_of_ble_eq_true rfl, Nat.le_of_ble_eq_true rfl⟩, Nat.le_of_ble_eq_true rfl⟩ rfl (by decide +kernel) (fun w12 g10 e11 => ?_)
                    refine s_if_ne (pc := 172) (off := 12) 184 (by decide +kernel) (by decide) (fun _ => ?_) (fun _ => ?_)
                    · refine s_aload_n (pc := 175) (k0 := 0) (i := 0) rfl 1 rfl (by decide +kernel) ?_
                      refine s_iload_n (pc := 176) (k0 := 1) (i := 1) rfl 2 rfl (by decide +kernel) ?_
                      refine s_iconst (pc := 177) (n := -1) (v := (-1 : Int32)) (by decide) (by decide +kernel) ?_
                      have c13 := kp e11 c9 (by decide)
                      refine s_cVi (pc := 178) [.int a1, .int (-1 : Int32)] (tX7_isStrict a0 a1 (-1 : Int32) g10) c13 cw_X7_263 rfl ⟨⟨Nat.le_of_ble_eq_true rfl, Nat.le_of_ble_eq_true rfl⟩, Nat.le_of_ble_eq_true rfl⟩ rfl (by decide +kernel) (fun w16 g14 e15 => ?_)
                      refine s_if_eq (pc := 181) (off := 7) 188 (by decide +kernel) (by decide) (fun _ => ?_) (fun _ => ?_)
                      · refine s_iconst (pc := 188) (n := 0) (v := (0 : Int32)) (by decide) (by decide +kernel) ?_
                        exact s_iret (pc := 189) rfl (by decide +kernel)
                      · refine S_sub [] rfl ?_
                        exact pX7_of_b184 g14
                    · refine S_sub [] rfl ?_
                      exact pX7_of_b184 g10
                  · refine S_ite (fun e => ?_) (fun ne9 => ?_)
                    · refine s_tableIn (pc := 42) (dflt := 155) (lo := 0) (hi := 9) (offs := #[54, 56, 64, 70, 76, 102, 109, 118, 124, 148]) (len := 54) (off := 148) 190 (by decide +kernel) (by rw [e]; decide) (by rw [e]; decide) (by rw [e]; rfl) (by decide) ?_
                      refine s_aload_n (pc := 190) (k0 := 0) (i := 0) rfl 1 rfl (by decide +kernel) ?_
                      refine s_iload_n (pc := 191) (k0 := 1) (i := 1) rfl 2 rfl (by decide +kernel) ?_
                      refine s_iconst (pc := 192) (n := 1) (v := (1 : Int32)) (by decide) (by decide +kernel) ?_
                      have c5 := kp e3 c1 (by decide)
                      refine s_cVi (pc := 193) [.int a1, .int (1 : Int32)] (tX7_falls a0 a1 (1 : Int32) g2) c5 cw_X7_369 rfl ⟨⟨Nat.le_of_ble_eq_true rfl, Nat.le_of_ble_eq_true rfl⟩, Nat.le_of_ble_eq_true rfl⟩ rfl (by decide +kernel) (fun w8 g6 e7 => ?_)
                      exact s_iret (pc := 196) rfl (by decide +kernel)
                    · have tn0 := tb_ne ne0 (n := 0) (by decide)
                      have tn1 := tb_ne ne1 (n := 1) (by decide)
                      have tn2 := tb_ne ne2 (n := 2) (by decide)
                      have tn3 := tb_ne ne3 (n := 3) (by decide)
                      have tn4 := tb_ne ne4 (n := 4) (by decide)
                      have tn5 := tb_ne ne5 (n := 5) (by decide)
                      have tn6 := tb_ne ne6 (n := 6) (by decide)
                      have tn7 := tb_ne ne7 (n := 7) (by decide)
                      have tn8 := tb_ne ne8 (n := 8) (by decide)
                      have tn9 := tb_ne ne9 (n := 9) (by decide)
                      refine s_tableOut (pc := 42) (dflt := 155) (lo := 0) (hi := 9) (offs := #[54, 56, 64, 70, 76, 102, 109, 118, 124, 148]) (len := 54) 197 (by decide +kernel) (by omega) (by decide) ?_
                      refine s_ldcw (pc := 197) (v := (-2147483648 : Int32)) (index := 344) (gd_of 1307 (by decide +kernel) rfl) (by decide +kernel) ?_
                      exact s_iret (pc := 200) rfl (by decide +kernel)
theorem pX7_of_b23 {h0 : xH}    (a0 : Nat) (a1 : Int32) (a2 : Int32) (h : xH) : S emI kX7_of h0 23 [(0, .ref a0), (1, .int a1), (2, .int a2)] [] h (fX7_of_b23  a0 a1 a2 h) := by
  unfold fX7_of_b23
  refine s_aload_n (pc := 23) (k0 := 0) (i := 0) rfl 0 rfl (by decide +kernel) ?_
  refine s_iload_n (pc := 24) (k0 := 1) (i := 1) rfl 1 rfl (by decide +kernel) ?_
  refine S_gd (fun c1 => ?_)
  refine s_cVi (pc := 25) [.int a1] (tX7_many a0 a1 h) c1 cw_X7_168 rfl ⟨⟨Nat.le_of_ble_eq_true rfl, Nat.le_of_ble_eq_true rfl⟩, Nat.le_of_ble_eq_true rfl⟩ rfl (by decide +kernel) (fun w4 g2 e3 => ?_)
  refine s_if_ne (pc := 28) (off := 7) 35 (by decide +kernel) (by decide) (fun _ => ?_) (fun _ => ?_)
  · refine s_ldcw (pc := 31) (v := (-2147483648 : Int32)) (index := 344) (gd_of 1307 (by decide +kernel) rfl) (by decide +kernel) ?_
    exact s_iret (pc := 34) rfl (by decide +kernel)
  · exact pX7_of_b35 a0 a1 a2 g2
theorem pX7_of_e    (a0 : Nat) (a1 : Int32) (a2 : Int32) (h : xH) : S emI kX7_of h 0 [(0, .ref a0), (1, .int a1), (2, .int a2)] [] h (fX7_of  a0 a1 a2 h) := by
  unfold fX7_of
  refine s_aload_n (pc := 0) (k0 := 0) (i := 0) rfl 0 rfl (by decide +kernel) ?_
  refine s_iconst (pc := 1) (n := 0) (v := (0 : Int32)) (by decide) (by decide +kernel) ?_
  refine S_gd (fun c1 => ?_)
  refine s_putI (pc := 2) (k := 0) c1 ft_X7_107 (fw_7_0 _ _) rfl rfl (by decide +kernel) ?_
  refine s_nmH (o := h) rfl (fun g2 e3 => ?_)
  refine s_iload_n (pc := 5) (k0 := 1) (i := 1) rfl 1 rfl (by decide +kernel) ?_
  refine s_cSi (pc := 6) [.int a1] (tX7_isStore a1 g2) cw_X7_247 rfl ⟨⟨Nat.le_of_ble_eq_true rfl, Nat.le_of_ble_eq_true rfl⟩, Nat.le_of_ble_eq_true rfl⟩ rfl (by decide +kernel) (fun w6 g4 e5 => ?_)
  refine s_if_eq (pc := 9) (off := 22) 31 (by decide +kernel) (by decide) (fun _ => ?_) (fun _ => ?_)
  · refine s_ldcw (pc := 31) (v := (-2147483648 : Int32)) (index := 344) (gd_of 1307 (by decide +kernel) rfl) (by decide +kernel) ?_
    exact s_iret (pc := 34) rfl (by decide +kernel)
  · refine s_iload_n (pc := 12) (k0 := 2) (i := 2) rfl 2 rfl (by decide +kernel) ?_
    refine s_iconst (pc := 13) (n := 5) (v := (5 : Int32)) (by decide) (by decide +kernel) ?_
    refine s_icmp_eq (pc := 14) (off := 9) 23 (by decide +kernel) (by decide) (fun _ => ?_) (fun _ => ?_)
    · exact pX7_of_b23 a0 a1 a2 g4
    · refine s_iload_n (pc := 17) (k0 := 2) (i := 2) rfl 2 rfl (by decide +kernel) ?_
      refine s_bipush (pc := 18) (n := 6) (v := (6 : Int32)) (by decide) (by decide +kernel) ?_
      refine s_icmp_ne (pc := 20) (off := 15) 35 (by decide +kernel) (by decide) (fun _ => ?_) (fun _ => ?_)
      · exact pX7_of_b23 a0 a1 a2 g4
      · exact pX7_of_b35 a0 a1 a2 g4
theorem tX7_of (a0 : Nat) (a1 : Int32) (a2 : Int32) (h : xH) : Ct yX7_of kX7_of emI [.ref a0, .int a1, .int a2] h (fX7_of a0 a1 a2 h) := Ct_of (by decide +kernel) rfl rfl rfl (Nat.le_of_ble_eq_true rfl) rfl (pX7_of_e a0 a1 a2 h)
def fX7_least_b106 (r49 : Nat → Int32 → Int32 → Int32 → Int32 → Int32 → xH → Option (Int32 × xH)) (s0 : Int32) (a0 : Nat) (a1 : Int32) (a2 : Int32) (a3 : Int32) (a5 : Int32) (h : xH) : Option (Int32 × xH) :=
  lt (a5 + (1 : Int32)) (fun v1 =>
  r49 a0 a1 a2 a3 s0 v1 h)
def fX7_least_b81 (r49 : Nat → Int32 → Int32 → Int32 → Int32 → Int32 → xH → Option (Int32 × xH)) (s0 : Int32) (a0 : Nat) (a1 : Int32) (a2 : Int32) (a4 : Int32) (a5 : Int32) (h : xH) : Option (Int32 × xH) :=
  if kc h a0 = 7 then
  bd (fX7_yOf a0 a1 a5 h) (fun w4 g2 =>
  if w4 ≤ a4 then (
  fX7_least_b106 r49 a4 a0 a1 a2 s0 a5 g2)
  else (
  bd (fX7_yOf a0 a1 a5 g2) (fun w8 g6 =>
  fX7_least_b106 r49 w8 a0 a1 a2 s0 a5 g6)))
  else none
def fX7_least_b163 (r123 : Nat → Int32 → Int32 → Int32 → Int32 → Int32 → Int32 → Int32 → xH → Option (Int32 × xH))  (a0 : Nat) (a1 : Int32) (a2 : Int32) (a3 : Int32) (a4 : Int32) (a5 : Int32) (a6 : Int32) (a7 : Int32) (h : xH) : Option (Int32 × xH) :=
  lt (a7 + (1 : Int32)) (fun v1 =>
  r123 a0 a1 a2 a3 a4 a5 a6 v1 h)
def fX7_least_b157 (r123 : Nat → Int32 → Int32 → Int32 → Int32 → Int32 → Int32 → Int32 → xH → Option (Int32 × xH)) (s0 : Int32) (a0 : Nat) (a1 : Int32) (a2 : Int32) (a3 : Int32) (a4 : Int32) (a7 : Int32) (h : xH) : Option (Int32 × xH) :=
  fX7_least_b163 r123 a0 a1 a2 a3 a4 s0 a7 a7 h
def fX7_least_b123 (r123 : Nat → Int32 → Int32 → Int32 → Int32 → Int32 → Int32 → Int32 → xH → Option (Int32 × xH))  (a0 : Nat) (a1 : Int32) (a2 : Int32) (a3 : Int32) (a4 : Int32) (a5 : Int32) (a6 : Int32) (a7 : Int32) (h : xH) : Option (Int32 × xH) :=
  if kc h a0 = 7 then
  bd (fX7_many a0 a1 h) (fun w4 g2 =>
  if w4 ≤ a7 then (
  if a2 = 0 then (
  some (a3, g2))
  else (
  if a2 = (1 : Int32) then (
  bd (fX7_xOf a0 a1 a5 g2) (fun w12 g10 =>
  some (w12, g10)))
  else (
  if a2 = (2 : Int32) then (
  bd (fX7_xOf a0 a1 a6 g2) (fun w8 g6 =>
  some (w8, g6)))
  else (
  some (a4, g2)))))
  else (
  bd (fX7_yOf a0 a1 a7 g2) (fun w16 g14 =>
  if w16 = a3 then (
  if a5 = (-1 : Int32) then (
  fX7_least_b157 r123 a7 a0 a1 a2 a3 a4 a7 g14)
  else (
  fX7_least_b157 r123 a5 a0 a1 a2 a3 a4 a7 g14))
  else (
  fX7_least_b163 r123 a0 a1 a2 a3 a4 a5 a6 a7 g14))))
  else none
def fX7_least_l123  : Nat → Nat → Int32 → Int32 → Int32 → Int32 → Int32 → Int32 → Int32 → xH → Option (Int32 × xH)
  | 0 => fun _ _ _ _ _ _ _ _ _ => none
  | k + 1 => fX7_least_b123 (fX7_least_l123  k)
def fX7_least_b49 (r49 : Nat → Int32 → Int32 → Int32 → Int32 → Int32 → xH → Option (Int32 × xH))  (a0 : Nat) (a1 : Int32) (a2 : Int32) (a3 : Int32) (a4 : Int32) (a5 : Int32) (h : xH) : Option (Int32 × xH) :=
  if kc h a0 = 7 then
  bd (fX7_many a0 a1 h) (fun w4 g2 =>
  if w4 ≤ a5 then (
  lt (-1 : Int32) (fun v5 =>
  lt (-1 : Int32) (fun v6 =>
  lt (0 : Int32) (fun v7 =>
  fX7_least_l123 FU a0 a1 a2 a3 a4 v5 v6 v7 g2))))
  else (
  bd (fX7_yOf a0 a1 a5 g2) (fun w11 g9 =>
  if a3 ≤ w11 then (
  fX7_least_b81 r49 a3 a0 a1 a2 a4 a5 g9)
  else (
  bd (fX7_yOf a0 a1 a5 g9) (fun w15 g13 =>
  fX7_least_b81 r49 w15 a0 a1 a2 a4 a5 g13)))))
  else none
def fX7_least_l49  : Nat → Nat → Int32 → Int32 → Int32 → Int32 → Int32 → xH → Option (Int32 × xH)
  | 0 => fun _ _ _ _ _ _ _ => none
  | k + 1 => fX7_least_b49 (fX7_least_l49  k)
def fX7_least   (a0 : Nat) (a1 : Int32) (a2 : Int32) (h : xH) : Option (Int32 × xH) :=
  if kc h a0 = 7 then
  lt (sI h a0 0 (0 : Int32)) (fun g2 =>
  bd (fX7_isStore a1 g2) (fun w6 g4 =>
  if w6 = 0 then (
  some ((-2147483648 : Int32), g4))
  else (
  bd (fX7_many a0 a1 g4) (fun w10 g8 =>
  if w10 = 0 then (
  some ((-2147483648 : Int32), g8))
  else (
  bd (fX7_in a2.toInt64 (0 : Int64) (3 : Int64) g8) (fun w13 g11 =>
  if w13 = 0 then (
  some ((-2147483648 : Int32), g11))
  else (
  bd (fX7_yOf a0 a1 (0 : Int32) g11) (fun w17 g15 =>
  lt (1 : Int32) (fun v18 =>
  fX7_least_l49 FU a0 a1 a2 w17 w17 v18 g15)))))))))
  else none
theorem pX7_least_b106 {h0 : xH} {r49 : Nat → Int32 → Int32 → Int32 → Int32 → Int32 → xH → Option (Int32 × xH)} (hr49 : ∀  (a0 : Nat) (a1 : Int32) (a2 : Int32) (a3 : Int32) (a4 : Int32) (a5 : Int32) (g : xH), S emI kX7_least h0 49 [(0, .ref a0), (1, .int a1), (2, .int a2), (3, .int a3), (4, .int a4), (5, .int a5)] [] g (r49  a0 a1 a2 a3 a4 a5 g)) (s0 : Int32) (a0 : Nat) (a1 : Int32) (a2 : Int32) (a3 : Int32) (a5 : Int32) (h : xH) : S emI kX7_least h0 106 [(0, .ref a0), (1, .int a1), (2, .int a2), (3, .int a3), (5, .int a5)] [.int s0] h (fX7_least_b106 r49 s0 a0 a1 a2 a3 a5 h) := by
  unfold fX7_least_b106
  refine s_istore (pc := 106) (L' := [(4, .int s0), (0, .ref a0), (1, .int a1), (2, .int a2), (3, .int a3), (5, .int a5)]) (i := 4) (by decide) rfl (by decide +kernel) ?_
  refine s_iinc (pc := 108) (L' := [(5, .int (a5 + (1 : Int32))), (4, .int s0), (0, .ref a0), (1, .int a1), (2, .int a2), (3, .int a3)]) (i := 5) (n := 1) 5 rfl rfl (by decide) rfl (by decide +kernel) ?_
  refine s_nmI0 (e := a5 + (1 : Int32)) (L := fun v1 => [(5, .int v1), (4, .int s0), (0, .ref a0), (1, .int a1), (2, .int a2), (3, .int a3)]) (fun v1 => ?_)
  refine s_goto (pc := 111) (off := -62) 49 (by decide +kernel) (by decide) ?_
  refine S_sub [2, 3, 4, 5, 1, 0] rfl ?_
  exact hr49 a0 a1 a2 a3 s0 v1 h
theorem pX7_least_b81 {h0 : xH} {r49 : Nat → Int32 → Int32 → Int32 → Int32 → Int32 → xH → Option (Int32 × xH)} (hr49 : ∀  (a0 : Nat) (a1 : Int32) (a2 : Int32) (a3 : Int32) (a4 : Int32) (a5 : Int32) (g : xH), S emI kX7_least h0 49 [(0, .ref a0), (1, .int a1), (2, .int a2), (3, .int a3), (4, .int a4), (5, .int a5)] [] g (r49  a0 a1 a2 a3 a4 a5 g)) (s0 : Int32) (a0 : Nat) (a1 : Int32) (a2 : Int32) (a4 : Int32) (a5 : Int32) (h : xH) : S emI kX7_least h0 81 [(0, .ref a0), (1, .int a1), (2, .int a2), (4, .int a4), (5, .int a5)] [.int s0] h (fX7_least_b81 r49 s0 a0 a1 a2 a4 a5 h) := by
  unfold fX7_least_b81
  refine s_istore_n (pc := 81) (L' := [(3, .int s0), (0, .ref a0), (1, .int a1), (2, .int a2), (4, .int a4), (5, .int a5)]) (k0 := 3) (i := 3) rfl (by decide) rfl (by decide +kernel) ?_
  refine s_aload_n (pc := 82) (k0 := 0) (i := 0) rfl 1 rfl (by decide +kernel) ?_
  refine s_iload_n (pc := 83) (k0 := 1) (i := 1) rfl 2 rfl (by decide +kernel) ?_
  refine s_iload (pc := 84) (i := 5) 5 rfl (by decide +kernel) ?_
  refine S_gd (fun c1 => ?_)
  refine s_cVi (pc := 86) [.int a1, .int a5] (tX7_yOf a0 a1 a5 h) c1 cw_X7_178 rfl ⟨⟨Nat.le_of_ble_eq_true rfl, Nat.le_of_ble_eq_true rfl⟩, Nat.le_of_ble_eq_true rfl⟩ rfl (by decide +kernel) (fun w4 g2 e3 => ?_)
  refine s_iload (pc := 89) (i := 4) 4 rfl (by decide +kernel) ?_
  refine s_icmp_le (pc := 91) (off := 13) 104 (by decide +kernel) (by decide) (fun _ => ?_) (fun _ => ?_)
  · refine s_iload (pc := 104) (i := 4) 4 rfl (by decide +kernel) ?_
    refine S_sub [1, 2, 3, 0, 5] rfl ?_
    exact pX7_least_b106 hr49 a4 a0 a1 a2 s0 a5 g2
  · refine s_aload_n (pc := 94) (k0 := 0) (i := 0) rfl 1 rfl (by decide +kernel) ?_
    refine s_iload_n (pc := 95) (k0 := 1) (i := 1) rfl 2 rfl (by decide +kernel) ?_
    refine s_iload (pc := 96) (i := 5) 5 rfl (by decide +kernel) ?_
    have c5 := kp e3 c1 (by decide)
    refine s_cVi (pc := 98) [.int a1, .int a5] (tX7_yOf a0 a1 a5 g2) c5 cw_X7_178 rfl ⟨⟨Nat.le_of_ble_eq_true rfl, Nat.le_of_ble_eq_true rfl⟩, Nat.le_of_ble_eq_true rfl⟩ rfl (by decide +kernel) (fun w8 g6 e7 => ?_)
    refine s_goto (pc := 101) (off := 5) 106 (by decide +kernel) (by decide) ?_
    refine S_sub [1, 2, 3, 0, 5] rfl ?_
    exact pX7_least_b106 hr49 w8 a0 a1 a2 s0 a5 g6
theorem pX7_least_b163 {h0 : xH} {r123 : Nat → Int32 → Int32 → Int32 → Int32 → Int32 → Int32 → Int32 → xH → Option (Int32 × xH)} (hr123 : ∀  (a0 : Nat) (a1 : Int32) (a2 : Int32) (a3 : Int32) (a4 : Int32) (a5 : Int32) (a6 : Int32) (a7 : Int32) (g : xH), S emI kX7_least h0 123 [(0, .ref a0), (1, .int a1), (2, .int a2), (3, .int a3), (4, .int a4), (5, .int a5), (6, .int a6), (7, .int a7)] [] g (r123  a0 a1 a2 a3 a4 a5 a6 a7 g))  (a0 : Nat) (a1 : Int32) (a2 : Int32) (a3 : Int32) (a4 : Int32) (a5 : Int32) (a6 : Int32) (a7 : Int32) (h : xH) : S emI kX7_least h0 163 [(0, .ref a0), (1, .int a1), (2, .int a2), (3, .int a3), (4, .int a4), (5, .int a5), (6, .int a6), (7, .int a7)] [] h (fX7_least_b163 r123 a0 a1 a2 a3 a4 a5 a6 a7 h) := by
  unfold fX7_least_b163
  refine s_iinc (pc := 163) (L' := [(7, .int (a7 + (1 : Int32))), (0, .ref a0), (1, .int a1), (2, .int a2), (3, .int a3), (4, .int a4), (5, .int a5), (6, .int a6)]) (i := 7) (n := 1) 7 rfl rfl (by decide) rfl (by decide +kernel) ?_
  refine s_nmI0 (e := a7 + (1 : Int32)) (L := fun v1 => [(7, .int v1), (0, .ref a0), (1, .int a1), (2, .int a2), (3, .int a3), (4, .int a4), (5, .int a5), (6, .int a6)]) (fun v1 => ?_)
  refine s_goto (pc := 166) (off := -43) 123 (by decide +kernel) (by decide) ?_
  refine S_sub [1, 2, 3, 4, 5, 6, 7, 0] rfl ?_
  exact hr123 a0 a1 a2 a3 a4 a5 a6 v1 h
theorem pX7_least_b157 {h0 : xH} {r123 : Nat → Int32 → Int32 → Int32 → Int32 → Int32 → Int32 → Int32 → xH → Option (Int32 × xH)} (hr123 : ∀  (a0 : Nat) (a1 : Int32) (a2 : Int32) (a3 : Int32) (a4 : Int32) (a5 : Int32) (a6 : Int32) (a7 : Int32) (g : xH), S emI kX7_least h0 123 [(0, .ref a0), (1, .int a1), (2, .int a2), (3, .int a3), (4, .int a4), (5, .int a5), (6, .int a6), (7, .int a7)] [] g (r123  a0 a1 a2 a3 a4 a5 a6 a7 g)) (s0 : Int32) (a0 : Nat) (a1 : Int32) (a2 : Int32) (a3 : Int32) (a4 : Int32) (a7 : Int32) (h : xH) : S emI kX7_least h0 157 [(0, .ref a0), (1, .int a1), (2, .int a2), (3, .int a3), (4, .int a4), (7, .int a7)] [.int s0] h (fX7_least_b157 r123 s0 a0 a1 a2 a3 a4 a7 h) := by
  unfold fX7_least_b157
  refine s_istore (pc := 157) (L' := [(5, .int s0), (0, .ref a0), (1, .int a1), (2, .int a2), (3, .int a3), (4, .int a4), (7, .int a7)]) (i := 5) (by decide) rfl (by decide +kernel) ?_
  refine s_iload (pc := 159) (i := 7) 6 rfl (by decide +kernel) ?_
  refine s_istore (pc := 161) (L' := [(6, .int a7), (5, .int s0), (0, .ref a0), (1, .int a1), (2, .int a2), (3, .int a3), (4, .int a4), (7, .int a7)]) (i := 6) (by decide) rfl (by decide +kernel) ?_
  refine S_sub [2, 3, 4, 5, 6, 1, 0, 7] rfl ?_
  exact pX7_least_b163 hr123 a0 a1 a2 a3 a4 s0 a7 a7 h
theorem pX7_least_b123 {h0 : xH} {r123 : Nat → Int32 → Int32 → Int32 → Int32 → Int32 → Int32 → Int32 → xH → Option (Int32 × xH)} (hr123 : ∀  (a0 : Nat) (a1 : Int32) (a2 : Int32) (a3 : Int32) (a4 : Int32) (a5 : Int32) (a6 : Int32) (a7 : Int32) (g : xH), S emI kX7_least h0 123 [(0, .ref a0), (1, .int a1), (2, .int a2), (3, .int a3), (4, .int a4), (5, .int a5), (6, .int a6), (7, .int a7)] [] g (r123  a0 a1 a2 a3 a4 a5 a6 a7 g))  (a0 : Nat) (a1 : Int32) (a2 : Int32) (a3 : Int32) (a4 : Int32) (a5 : Int32) (a6 : Int32) (a7 : Int32) (h : xH) : S emI kX7_least h0 123 [(0, .ref a0), (1, .int a1), (2, .int a2), (3, .int a3), (4, .int a4), (5, .int a5), (6, .int a6), (7, .int a7)] [] h (fX7_least_b123 r123 a0 a1 a2 a3 a4 a5 a6 a7 h) := by
  unfold fX7_least_b123
  refine s_iload (pc := 123) (i := 7) 7 rfl (by decide +kernel) ?_
  refine s_aload_n (pc := 125) (k0 := 0) (i := 0) rfl 0 rfl (by decide +kernel) ?_
  refine s_iload_n (pc := 126) (k0 := 1) (i := 1) rfl 1 rfl (by decide +kernel) ?_
  refine S_gd (fun c1 => ?_)
  refine s_cVi (pc := 127) [.int a1] (tX7_many a0 a1 h) c1 cw_X7_168 rfl ⟨⟨Nat.le_of_ble_eq_true rfl, Nat.le_of_ble_eq_true rfl⟩, Nat.le_of_ble_eq_true rfl⟩ rfl (by decide +kernel) (fun w4 g2 e3 => ?_)
  refine s_icmp_ge (pc := 130) (off := 39) 169 (by decide +kernel) (by decide) (fun _ => ?_) (fun _ => ?_)
  · refine s_iload_n (pc := 169) (k0 := 2) (i := 2) rfl 2 rfl (by decide +kernel) ?_
    refine s_if_ne (pc := 170) (off := 7) 177 (by decide +kernel) (by decide) (fun _ => ?_) (fun _ => ?_)
    · refine s_iload_n (pc := 173) (k0 := 3) (i := 3) rfl 3 rfl (by decide +kernel) ?_
      refine s_goto (pc := 174) (off := 35) 209 (by decide +kernel) (by decide) ?_
      exact s_iret (pc := 209) rfl (by decide +kernel)
    · refine s_iload_n (pc := 177) (k0 := 2) (i := 2) rfl 2 rfl (by decide +kernel) ?_
      refine s_iconst (pc := 178) (n := 1) (v := (1 : Int32)) (by decide) (by decide +kernel) ?_
      refine s_icmp_ne (pc := 179) (off := 13) 192 (by decide +kernel) (by decide) (fun _ => ?_) (fun _ => ?_)
      · refine s_aload_n (pc := 182) (k0 := 0) (i := 0) rfl 0 rfl (by decide +kernel) ?_
        refine s_iload_n (pc := 183) (k0 := 1) (i := 1) rfl 1 rfl (by decide +kernel) ?_
        refine s_iload (pc := 184) (i := 5) 5 rfl (by decide +kernel) ?_
        have c9 := kp e3 c1 (by decide)
        refine s_cVi (pc := 186) [.int a1, .int a5] (tX7_xOf a0 a1 a5 g2) c9 cw_X7_174 rfl ⟨⟨Nat.le_of_ble_eq_true rfl, Nat.le_of_ble_eq_true rfl⟩, Nat.le_of_ble_eq_true rfl⟩ rfl (by decide +kernel) (fun w12 g10 e11 => ?_)
        refine s_goto (pc := 189) (off := 20) 209 (by decide +kernel) (by decide) ?_
        exact s_iret (pc := 209) rfl (by decide +kernel)
      · refine s_iload_n (pc := 192) (k0 := 2) (i := 2) rfl 2 rfl (by decide +kernel) ?_
        refine s_iconst (pc := 193) (n := 2) (v := (2 : Int32)) (by decide) (by decide +kernel) ?_
        refine s_icmp_ne (pc := 194) (off := 13) 207 (by decide +kernel) (by decide) (fun _ => ?_) (fun _ => ?_)
        · refine s_aload_n (pc := 197) (k0 := 0) (i := 0) rfl 0 rfl (by decide +kernel) ?_
          refine s_iload_n (pc := 198) (k0 := 1) (i := 1) rfl 1 rfl (by decide +kernel) ?_
          refine s_iload (pc := 199) (i := 6) 6 rfl (by decide +kernel) ?_
          have c5 := kp e3 c1 (by decide)
          refine s_cVi (pc := 201) [.int a1, .int a6] (tX7_xOf a0 a1 a6 g2) c5 cw_X7_174 rfl ⟨⟨Nat.le_of_ble_eq_true rfl, Nat.le_of_ble_eq_true rfl⟩, Nat.le_of_ble_eq_true rfl⟩ rfl (by decide +kernel) (fun w8 g6 e7 => ?_)
          refine s_goto (pc := 204) (off := 5) 209 (by decide +kernel) (by decide) ?_
          exact s_iret (pc := 209) rfl (by decide +kernel)
        · refine s_iload (pc := 207) (i := 4) 4 rfl (by decide +kernel) ?_
          exact s_iret (pc := 209) rfl (by decide +kernel)
  · refine s_aload_n (pc := 133) (k0 := 0) (i := 0) rfl 0 rfl (by decide +kernel) ?_
    refine s_iload_n (pc := 134) (k0 := 1) (i := 1) rfl 1 rfl (by decide +kernel) ?_
    refine s_iload (pc := 135) (i := 7) 7 rfl (by decide +kernel) ?_
    have c13 := kp e3 c1 (by decide)
    refine s_cVi (pc := 137) [.int a1, .int a7] (tX7_yOf a0 a1 a7 g2) c13 cw_X7_178 rfl ⟨⟨Nat.le_of_ble_eq_true rfl, Nat.le_of_ble_eq_true rfl⟩, Nat.le_of_ble_eq_true rfl⟩ rfl (by decide +kernel) (fun w16 g14 e15 => ?_)
    refine s_iload_n (pc := 140) (k0 := 3) (i := 3) rfl 3 rfl (by decide +kernel) ?_
    refine s_icmp_ne (pc := 141) (off := 22) 163 (by decide +kernel) (by decide) (fun _ => ?_) (fun _ => ?_)
    · refine s_iload (pc := 144) (i := 5) 5 rfl (by decide +kernel) ?_
      refine s_iconst (pc := 146) (n := -1) (v := (-1 : Int32)) (by decide) (by decide +kernel) ?_
      refine s_icmp_ne (pc := 147) (off := 8) 155 (by decide +kernel) (by decide) (fun _ => ?_) (fun _ => ?_)
      · refine s_iload (pc := 150) (i := 7) 7 rfl (by decide +kernel) ?_
        refine s_goto (pc := 152) (off := 5) 157 (by decide +kernel) (by decide) ?_
        refine S_sub [0, 1, 2, 3, 4, 7] rfl ?_
        exact pX7_least_b157 hr123 a7 a0 a1 a2 a3 a4 a7 g14
      · refine s_iload (pc := 155) (i := 5) 5 rfl (by decide +kernel) ?_
        refine S_sub [0, 1, 2, 3, 4, 7] rfl ?_
        exact pX7_least_b157 hr123 a5 a0 a1 a2 a3 a4 a7 g14
    · exact pX7_least_b163 hr123 a0 a1 a2 a3 a4 a5 a6 a7 g14
theorem pX7_least_l123 {h0 : xH}   : ∀ (k : Nat)  (a0 : Nat) (a1 : Int32) (a2 : Int32) (a3 : Int32) (a4 : Int32) (a5 : Int32) (a6 : Int32) (a7 : Int32) (h : xH), S emI kX7_least h0 123 [(0, .ref a0), (1, .int a1), (2, .int a2), (3, .int a3), (4, .int a4), (5, .int a5), (6, .int a6), (7, .int a7)] [] h (fX7_least_l123  k  a0 a1 a2 a3 a4 a5 a6 a7 h) := by
  intro k
  induction k with
  | zero => intros; exact S_none
  | succ k ih => intro  a0 a1 a2 a3 a4 a5 a6 a7 h; exact pX7_least_b123 ih  a0 a1 a2 a3 a4 a5 a6 a7 h
theorem pX7_least_b49 {h0 : xH} {r49 : Nat → Int32 → Int32 → Int32 → Int32 → Int32 → xH → Option (Int32 × xH)} (hr49 : ∀  (a0 : Nat) (a1 : Int32) (a2 : Int32) (a3 : Int32) (a4 : Int32) (a5 : Int32) (g : xH), S emI kX7_least h0 49 [(0, .ref a0), (1, .int a1), (2, .int a2), (3, .int a3), (4, .int a4), (5, .int a5)] [] g (r49  a0 a1 a2 a3 a4 a5 g))  (a0 : Nat) (a1 : Int32) (a2 : Int32) (a3 : Int32) (a4 : Int32) (a5 : Int32) (h : xH) : S emI kX7_least h0 49 [(0, .ref a0), (1, .int a1), (2, .int a2), (3, .int a3), (4, .int a4), (5, .int a5)] [] h (fX7_least_b49 r49 a0 a1 a2 a3 a4 a5 h) := by
  unfold fX7_least_b49
  refine s_iload (pc := 49) (i := 5) 5 rfl (by decide +kernel) ?_
  refine s_aload_n (pc := 51) (k0 := 0) (i := 0) rfl 0 rfl (by decide +kernel) ?_
  refine s_iload_n (pc := 52) (k0 := 1) (i := 1) rfl 1 rfl (by decide +kernel) ?_
  refine S_gd (fun c1 => ?_)
  refine s_cVi (pc := 53) [.int a1] (tX7_many a0 a1 h) c1 cw_X7_168 rfl ⟨⟨Nat.le_of_ble_eq_true rfl, Nat.le_of_ble_eq_true rfl⟩, Nat.le_of_ble_eq_true rfl⟩ rfl (by decide +kernel) (fun w4 g2 e3 => ?_)
  refine s_icmp_ge (pc := 56) (off := 58) 114 (by decide +kernel) (by decide) (fun _ => ?_) (fun _ => ?_)
  · refine s_iconst (pc := 114) (n := -1) (v := (-1 : Int32)) (by decide) (by decide +kernel) ?_
    refine s_nmI (fun v5 => ?_)
    refine s_istore (pc := 115) (L' := [(5, .int v5), (0, .ref a0), (1, .int a1), (2, .int a2), (3, .int a3), (4, .int a4)]) (i := 5) (by decide) rfl (by decide +kernel) ?_
    refine s_iconst (pc := 117) (n := -1) (v := (-1 : Int32)) (by decide) (by decide +kernel) ?_
    refine s_nmI (fun v6 => ?_)
    refine s_istore (pc := 118) (L' := [(6, .int v6), (5, .int v5), (0, .ref a0), (1, .int a1), (2, .int a2), (3, .int a3), (4, .int a4)]) (i := 6) (by decide) rfl (by decide +kernel) ?_
    refine s_iconst (pc := 120) (n := 0) (v := (0 : Int32)) (by decide) (by decide +kernel) ?_
    refine s_nmI (fun v7 => ?_)
    refine s_istore (pc := 121) (L' := [(7, .int v7), (6, .int v6), (5, .int v5), (0, .ref a0), (1, .int a1), (2, .int a2), (3, .int a3), (4, .int a4)]) (i := 7) (by decide) rfl (by decide +kernel) ?_
    refine S_sub [3, 4, 5, 6, 7, 2, 1, 0] rfl ?_
    exact pX7_least_l123 FU a0 a1 a2 a3 a4 v5 v6 v7 g2
  · refine s_aload_n (pc := 59) (k0 := 0) (i := 0) rfl 0 rfl (by decide +kernel) ?_
    refine s_iload_n (pc := 60) (k0 := 1) (i := 1) rfl 1 rfl (by decide +kernel) ?_
    refine s_iload (pc := 61) (i := 5) 5 rfl (by decide +kernel) ?_
    have c8 := kp e3 c1 (by decide)
    refine s_cVi (pc := 63) [.int a1, .int a5] (tX7_yOf a0 a1 a5 g2) c8 cw_X7_178 rfl ⟨⟨Nat.le_of_ble_eq_true rfl, Nat.le_of_ble_eq_true rfl⟩, Nat.le_of_ble_eq_true rfl⟩ rfl (by decide +kernel) (fun w11 g9 e10 => ?_)
    refine s_iload_n (pc := 66) (k0 := 3) (i := 3) rfl 3 rfl (by decide +kernel) ?_
    refine s_icmp_ge (pc := 67) (off := 13) 80 (by decide +kernel) (by decide) (fun _ => ?_) (fun _ => ?_)
    · refine s_iload_n (pc := 80) (k0 := 3) (i := 3) rfl 3 rfl (by decide +kernel) ?_
      refine S_sub [0, 1, 2, 4, 5] rfl ?_
      exact pX7_least_b81 hr49 a3 a0 a1 a2 a4 a5 g9
    · refine s_aload_n (pc := 70) (k0 := 0) (i := 0) rfl 0 rfl (by decide +kernel) ?_
      refine s_iload_n (pc := 71) (k0 := 1) (i := 1) rfl 1 rfl (by decide +kernel) ?_
      refine s_iload (pc := 72) (i := 5) 5 rfl (by decide +kernel) ?_
      have c12 := kp e10 c8 (by decide)
      refine s_cVi (pc := 74) [.int a1, .int a5] (tX7_yOf a0 a1 a5 g9) c12 cw_X7_178 rfl ⟨⟨Nat.le_of_ble_eq_true rfl, Nat.le_of_ble_eq_true rfl⟩, Nat.le_of_ble_eq_true rfl⟩ rfl (by decide +kernel) (fun w15 g13 e14 => ?_)
      refine s_goto (pc := 77) (off := 4) 81 (by decide +kernel) (by decide) ?_
      refine S_sub [0, 1, 2, 4, 5] rfl ?_
      exact pX7_least_b81 hr49 w15 a0 a1 a2 a4 a5 g13
theorem pX7_least_l49 {h0 : xH}   : ∀ (k : Nat)  (a0 : Nat) (a1 : Int32) (a2 : Int32) (a3 : Int32) (a4 : Int32) (a5 : Int32) (h : xH), S emI kX7_least h0 49 [(0, .ref a0), (1, .int a1), (2, .int a2), (3, .int a3), (4, .int a4), (5, .int a5)] [] h (fX7_least_l49  k  a0 a1 a2 a3 a4 a5 h) := by
  intro k
  induction k with
  | zero => intros; exact S_none
  | succ k ih => intro  a0 a1 a2 a3 a4 a5 h; exact pX7_least_b49 ih  a0 a1 a2 a3 a4 a5 h
theorem pX7_least_e    (a0 : Nat) (a1 : Int32) (a2 : Int32) (h : xH) : S emI kX7_least h 0 [(0, .ref a0), (1, .int a1), (2, .int a2)] [] h (fX7_least  a0 a1 a2 h) := by
  unfold fX7_least
  refine s_aload_n (pc := 0) (k0 := 0) (i := 0) rfl 0 rfl (by decide +kernel) ?_
  refine s_iconst (pc := 1) (n := 0) (v := (0 : Int32)) (by decide) (by decide +kernel) ?_
  refine S_gd (fun c1 => ?_)
  refine s_putI (pc := 2) (k := 0) c1 ft_X7_107 (fw_7_0 _ _) rfl rfl (by decide +kernel) ?_
  refine s_nmH (o := h) rfl (fun g2 e3 => ?_)
  refine s_iload_n (pc := 5) (k0 := 1) (i := 1) rfl 1 rfl (by decide +kernel) ?_
  refine s_cSi (pc := 6) [.int a1] (tX7_isStore a1 g2) cw_X7_247 rfl ⟨⟨Nat.le_of_ble_eq_true rfl, Nat.le_of_ble_eq_true rfl⟩, Nat.le_of_ble_eq_true rfl⟩ rfl (by decide +kernel) (fun w6 g4 e5 => ?_)
  refine s_if_eq (pc := 9) (off := 23) 32 (by decide +kernel) (by decide) (fun _ => ?_) (fun _ => ?_)
  · refine s_ldcw (pc := 32) (v := (-2147483648 : Int32)) (index := 344) (gd_of 1307 (by decide +kernel) rfl) (by decide +kernel) ?_
    exact s_iret (pc := 35) rfl (by decide +kernel)
  · refine s_aload_n (pc := 12) (k0 := 0) (i := 0) rfl 0 rfl (by decide +kernel) ?_
    refine s_iload_n (pc := 13) (k0 := 1) (i := 1) rfl 1 rfl (by decide +kernel) ?_
    have c7 := kp (Le.tr e3 e5) c1 (by decide)
    refine s_cVi (pc := 14) [.int a1] (tX7_many a0 a1 g4) c7 cw_X7_168 rfl ⟨⟨Nat.le_of_ble_eq_true rfl, Nat.le_of_ble_eq_true rfl⟩, Nat.le_of_ble_eq_true rfl⟩ rfl (by decide +kernel) (fun w10 g8 e9 => ?_)
    refine s_if_eq (pc := 17) (off := 15) 32 (by decide +kernel) (by decide) (fun _ => ?_) (fun _ => ?_)
    · refine s_ldcw (pc := 32) (v := (-2147483648 : Int32)) (index := 344) (gd_of 1307 (by decide +kernel) rfl) (by decide +kernel) ?_
      exact s_iret (pc := 35) rfl (by decide +kernel)
    · refine s_iload_n (pc := 20) (k0 := 2) (i := 2) rfl 2 rfl (by decide +kernel) ?_
      refine s_i2l (pc := 21) (by decide +kernel) ?_
      refine s_lconst (pc := 22) (n := 0) (v := (0 : Int64)) (by decide) (by decide +kernel) ?_
      refine s_ldc2 (pc := 23) (v := (3 : Int64)) (index := 361) (gd_of 1334 (by decide +kernel) rfl) (by decide +kernel) ?_
      refine s_cSi (pc := 26) [.long a2.toInt64, .long (0 : Int64), .long (3 : Int64)] (tX7_in a2.toInt64 (0 : Int64) (3 : Int64) g8) cw_X7_114 rfl ⟨⟨Nat.le_of_ble_eq_true rfl, Nat.le_of_ble_eq_true rfl⟩, Nat.le_of_ble_eq_true rfl⟩ rfl (by decide +kernel) (fun w13 g11 e12 => ?_)
      refine s_if_ne (pc := 29) (off := 7) 36 (by decide +kernel) (by decide) (fun _ => ?_) (fun _ => ?_)
      · refine s_ldcw (pc := 32) (v := (-2147483648 : Int32)) (index := 344) (gd_of 1307 (by decide +kernel) rfl) (by decide +kernel) ?_
        exact s_iret (pc := 35) rfl (by decide +kernel)
      · refine s_aload_n (pc := 36) (k0 := 0) (i := 0) rfl 0 rfl (by decide +kernel) ?_
        refine s_iload_n (pc := 37) (k0 := 1) (i := 1) rfl 1 rfl (by decide +kernel) ?_
        refine s_iconst (pc := 38) (n := 0) (v := (0 : Int32)) (by decide) (by decide +kernel) ?_
        have c14 := kp (Le.tr e9 e12) c7 (by decide)
        refine s_cVi (pc := 39) [.int a1, .int (0 : Int32)] (tX7_yOf a0 a1 (0 : Int32) g11) c14 cw_X7_178 rfl ⟨⟨Nat.le_of_ble_eq_true rfl, Nat.le_of_ble_eq_true rfl⟩, Nat.le_of_ble_eq_true rfl⟩ rfl (by decide +kernel) (fun w17 g15 e16 => ?_)
        refine s_istore_n (pc := 42) (L' := [(3, .int w17), (0, .ref a0), (1, .int a1), (2, .int a2)]) (k0 := 3) (i := 3) rfl (by decide) rfl (by decide +kernel) ?_
        refine s_iload_n (pc := 43) (k0 := 3) (i := 3) rfl 0 rfl (by decide +kernel) ?_
        refine s_istore (pc := 44) (L' := [(4, .int w17), (3, .int w17), (0, .ref a0), (1, .int a1), (2, .int a2)]) (i := 4) (by decide) rfl (by decide +kernel) ?_
        refine s_iconst (pc := 46) (n := 1) (v := (1 : Int32)) (by decide) (by decide +kernel) ?_
        refine s_nmI (fun v18 => ?_)
        refine s_istore (pc := 47) (L' := [(5, .int v18), (4, .int w17), (3, .int w17), (0, .ref a0), (1, .int a1), (2, .int a2)]) (i := 5) (by decide) rfl (by decide +kernel) ?_
        refine S_sub [3, 4, 5, 2, 1, 0] rfl ?_
        exact pX7_least_l49 FU a0 a1 a2 w17 w17 v18 g15
theorem tX7_least (a0 : Nat) (a1 : Int32) (a2 : Int32) (h : xH) : Ct yX7_least kX7_least emI [.ref a0, .int a1, .int a2] h (fX7_least a0 a1 a2 h) := Ct_of (by decide +kernel) rfl rfl rfl (Nat.le_of_ble_eq_true rfl) rfl (pX7_least_e a0 a1 a2 h)
def fX7_slope_b141 (r55 : Nat → Int32 → Int32 → Int32 → Int32 → xH → Option (Int64 × xH))  (a0 : Nat) (a2 : Int32) (a3 : Int32) (a4 : Int32) (a5 : Int32) (h : xH) : Option (Int64 × xH) :=
  lt (a5 + (1 : Int32)) (fun v1 =>
  r55 a0 a2 a3 a4 v1 h)
def fX7_slope_b55 (r55 : Nat → Int32 → Int32 → Int32 → Int32 → xH → Option (Int64 × xH))  (a0 : Nat) (a2 : Int32) (a3 : Int32) (a4 : Int32) (a5 : Int32) (h : xH) : Option (Int64 × xH) :=
  if kc h a0 = 7 then
  if (hI h a0 26) ≤ a5 then (
  some ((-9223372036854775808 : Int64), h))
  else (
  lt ((4 : Int32) * a5) (fun v2 =>
  if kc h (hR h a0 25) = 8 then
  if ix v2 (kl h (hR h a0 25)) then
  if ix (v2 + (2 : Int32)) (kl h (hR h a0 25)) then
  if (hI h (hR h a0 25) (v2 + (2 : Int32)).toNatClampNeg) ≤ (hI h (hR h a0 25) v2.toNatClampNeg) then (
  fX7_slope_b141 r55 a0 a2 a3 a4 a5 h)
  else (
  if a4 = a2 then (
  if ix (v2 + (3 : Int32)) (kl h (hR h a0 25)) then
  if ix (v2 + (1 : Int32)) (kl h (hR h a0 25)) then
  bd (fX7_part (((hI h (hR h a0 25) (v2 + (3 : Int32)).toNatClampNeg) - (hI h (hR h a0 25) (v2 + (1 : Int32)).toNatClampNeg)).toInt64) (((hI h (hR h a0 25) (v2 + (2 : Int32)).toNatClampNeg) - (hI h (hR h a0 25) v2.toNatClampNeg)).toInt64) a3 h) (fun w11 g9 =>
  some (w11, g9))
  else none
  else none)
  else (
  lt (a4 + (1 : Int32)) (fun v6 =>
  fX7_slope_b141 r55 a0 a2 a3 v6 a5 h)))
  else none
  else none
  else none))
  else none
def fX7_slope_l55  : Nat → Nat → Int32 → Int32 → Int32 → Int32 → xH → Option (Int64 × xH)
  | 0 => fun _ _ _ _ _ _ => none
  | k + 1 => fX7_slope_b55 (fX7_slope_l55  k)
def fX7_slope   (a0 : Nat) (a1 : Int32) (a2 : Int32) (a3 : Int32) (h : xH) : Option (Int64 × xH) :=
  if kc h a0 = 7 then
  lt (sI h a0 0 (0 : Int32)) (fun g2 =>
  bd (fX7_isStore a1 g2) (fun w6 g4 =>
  if w6 = 0 then (
  some ((-9223372036854775808 : Int64), g4))
  else (
  bd (fX7_linesIn a0 a1 g4) (fun w10 g8 =>
  bd (fX7_in a2.toInt64 (0 : Int64) (w10.toInt64 - (1 : Int64)) g8) (fun w13 g11 =>
  if w13 = 0 then (
  some ((-9223372036854775808 : Int64), g11))
  else (
  bd (fX7_in a3.toInt64 (0 : Int64) (1 : Int64) g11) (fun w16 g14 =>
  if w16 = 0 then (
  some ((-9223372036854775808 : Int64), g14))
  else (
  bd (fX7_laySpans a0 a1 (0 : Int32) g14) (fun _ g18 =>
  lt (0 : Int32) (fun v20 =>
  lt (0 : Int32) (fun v21 =>
  fX7_slope_l55 FU a0 a2 a3 v20 v21 g18)))))))))))
  else none
theorem pX7_slope_b141 {h0 : xH} {r55 : Nat → Int32 → Int32 → Int32 → Int32 → xH → Option (Int64 × xH)} (hr55 : ∀  (a0 : Nat) (a2 : Int32) (a3 : Int32) (a4 : Int32) (a5 : Int32) (g : xH), S emJ kX7_slope h0 55 [(0, .ref a0), (2, .int a2), (3, .int a3), (4, .int a4), (5, .int a5)] [] g (r55  a0 a2 a3 a4 a5 g))  (a0 : Nat) (a2 : Int32) (a3 : Int32) (a4 : Int32) (a5 : Int32) (h : xH) : S emJ kX7_slope h0 141 [(0, .ref a0), (2, .int a2), (3, .int a3), (4, .int a4), (5, .int a5)] [] h (fX7_slope_b141 r55 a0 a2 a3 a4 a5 h) := by
  unfold fX7_slope_b141
  refine s_iinc (pc := 141) (L' := [(5, .int (a5 + (1 : Int32))), (0, .ref a0), (2, .int a2), (3, .int a3), (4, .int a4)]) (i := 5) (n := 1) 4 rfl rfl (by decide) rfl (by decide +kernel) ?_
  refine s_nmI0 (e := a5 + (1 : Int32)) (L := fun v1 => [(5, .int v1), (0, .ref a0), (2, .int a2), (3, .int a3), (4, .int a4)]) (fun v1 => ?_)
  refine s_goto (pc := 144) (off := -89) 55 (by decide +kernel) (by decide) ?_
  refine S_sub [1, 2, 3, 4, 0] rfl ?_
  exact hr55 a0 a2 a3 a4 v1 h
theorem pX7_slope_b55 {h0 : xH} {r55 : Nat → Int32 → Int32 → Int32 → Int32 → xH → Option (Int64 × xH)} (hr55 : ∀  (a0 : Nat) (a2 : Int32) (a3 : Int32) (a4 : Int32) (a5 : Int32) (g : xH), S emJ kX7_slope h0 55 [(0, .ref a0), (2, .int a2), (3, .int a3), (4, .int a4), (5, .int a5)] [] g (r55  a0 a2 a3 a4 a5 g))  (a0 : Nat) (a2 : Int32) (a3 : Int32) (a4 : Int32) (a5 : Int32) (h : xH) : S emJ kX7_slope h0 55 [(0, .ref a0), (2, .int a2), (3, .int a3), (4, .int a4), (5, .int a5)] [] h (fX7_slope_b55 r55 a0 a2 a3 a4 a5 h) := by
  unfold fX7_slope_b55
  refine s_iload (pc := 55) (i := 5) 4 rfl (by decide +kernel) ?_
  refine s_aload_n (pc := 57) (k0 := 0) (i := 0) rfl 0 rfl (by decide +kernel) ?_
  refine S_gd (fun c1 => ?_)
  refine s_getI (pc := 58) (k := 26) c1 ft_X7_165 rfl (by decide +kernel) ?_
  refine s_icmp_ge (pc := 61) (off := 86) 147 (by decide +kernel) (by decide) (fun _ => ?_) (fun _ => ?_)
  · refine s_ldc2 (pc := 147) (v := (-9223372036854775808 : Int64)) (index := 334) (gd_of 1298 (by decide +kernel) rfl) (by decide +kernel) ?_
    exact s_lret (pc := 150) rfl (by decide +kernel)
  · refine s_iconst (pc := 64) (n := 4) (v := (4 : Int32)) (by decide) (by decide +kernel) ?_
    refine s_iload (pc := 65) (i := 5) 4 rfl (by decide +kernel) ?_
    refine s_imul (pc := 67) (by decide +kernel) ?_
    refine s_nmI (fun v2 => ?_)
    refine s_istore (pc := 68) (L' := [(6, .int v2), (0, .ref a0), (2, .int a2), (3, .int a3), (4, .int a4), (5, .int a5)]) (i := 6) (by decide) rfl (by decide +kernel) ?_
    refine s_aload_n (pc := 70) (k0 := 0) (i := 0) rfl 1 rfl (by decide +kernel) ?_
    refine s_getR (pc := 71) (k := 25) c1 ft_X7_72 rfl (by decide +kernel) ?_
    refine s_iload (pc := 74) (i := 6) 0 rfl (by decide +kernel) ?_
    refine S_gd (fun c3 => ?_)
    refine S_gd (fun c4 => ?_)
    refine s_iald (pc := 76) c3 c4 (by decide +kernel) ?_
    refine s_aload_n (pc := 77) (k0 := 0) (i := 0) rfl 1 rfl (by decide +kernel) ?_
    refine s_getR (pc := 78) (k := 25) c1 ft_X7_72 rfl (by decide +kernel) ?_
    refine s_iload (pc := 81) (i := 6) 0 rfl (by decide +kernel) ?_
    refine s_iconst (pc := 83) (n := 2) (v := (2 : Int32)) (by decide) (by decide +kernel) ?_
    refine s_iadd (pc := 84) (by decide +kernel) ?_
    refine S_gd (fun c5 => ?_)
    refine s_iald (pc := 85) c3 c5 (by decide +kernel) ?_
    refine s_icmp_ge (pc := 86) (off := 55) 141 (by decide +kernel) (by decide) (fun _ => ?_) (fun _ => ?_)
    · refine S_sub [1, 2, 3, 4, 5] rfl ?_
      exact pX7_slope_b141 hr55 a0 a2 a3 a4 a5 h
    · refine s_iload (pc := 89) (i := 4) 4 rfl (by decide +kernel) ?_
      refine s_iload_n (pc := 91) (k0 := 2) (i := 2) rfl 2 rfl (by decide +kernel) ?_
      refine s_icmp_ne (pc := 92) (off := 46) 138 (by decide +kernel) (by decide) (fun _ => ?_) (fun _ => ?_)
      · refine s_aload_n (pc := 95) (k0 := 0) (i := 0) rfl 1 rfl (by decide +kernel) ?_
        refine s_getR (pc := 96) (k := 25) c1 ft_X7_72 rfl (by decide +kernel) ?_
        refine s_iload (pc := 99) (i := 6) 0 rfl (by decide +kernel) ?_
        refine s_iconst (pc := 101) (n := 3) (v := (3 : Int32)) (by decide) (by decide +kernel) ?_
        refine s_iadd (pc := 102) (by decide +kernel) ?_
        refine S_gd (fun c7 => ?_)
        refine s_iald (pc := 103) c3 c7 (by decide +kernel) ?_
        refine s_aload_n (pc := 104) (k0 := 0) (i := 0) rfl 1 rfl (by decide +kernel) ?_
        refine s_getR (pc := 105) (k := 25) c1 ft_X7_72 rfl (by decide +kernel) ?_
        refine s_iload (pc := 108) (i := 6) 0 rfl (by decide +kernel) ?_
        refine s_iconst (pc := 110) (n := 1) (v := (1 : Int32)) (by decide) (by decide +kernel) ?_
        refine s_iadd (pc := 111) (by decide +kernel) ?_
        refine S_gd (fun c8 => ?_)
        refine s_iald (pc := 112) c3 c8 (by decide +kernel) ?_
        refine s_isub (pc := 113) (by decide +kernel) ?_
        refine s_i2l (pc := 114) (by decide +kernel) ?_
        refine s_aload_n (pc := 115) (k0 := 0) (i := 0) rfl 1 rfl (by decide +kernel) ?_
        refine s_getR (pc := 116) (k := 25) c1 ft_X7_72 rfl (by decide +kernel) ?_
        refine s_iload (pc := 119) (i := 6) 0 rfl (by decide +kernel) ?_
        refine s_iconst (pc := 121) (n := 2) (v := (2 : Int32)) (by decide) (by decide +kernel) ?_
        refine s_iadd (pc := 122) (by decide +kernel) ?_
        refine s_iald (pc := 123) c3 c5 (by decide +kernel) ?_
        refine s_aload_n (pc := 124) (k0 := 0) (i := 0) rfl 1 rfl (by decide +kernel) ?_
        refine s_getR (pc := 125) (k := 25) c1 ft_X7_72 rfl (by decide +kernel) ?_
        refine s_iload (pc := 128) (i := 6) 0 rfl (by decide +kernel) ?_
        refine s_iald (pc := 130) c3 c4 (by decide +kernel) ?_
        refine s_isub (pc := 131) (by decide +kernel) ?_
        refine s_i2l (pc := 132) (by decide +kernel) ?_
        refine s_iload_n (pc := 133) (k0 := 3) (i := 3) rfl 3 rfl (by decide +kernel) ?_
        refine s_cSj (pc := 134) [.long (((hI h (hR h a0 25) (v2 + (3 : Int32)).toNatClampNeg) - (hI h (hR h a0 25) (v2 + (1 : Int32)).toNatClampNeg)).toInt64), .long (((hI h (hR h a0 25) (v2 + (2 : Int32)).toNatClampNeg) - (hI h (hR h a0 25) v2.toNatClampNeg)).toInt64), .int a3] (tX7_part (((hI h (hR h a0 25) (v2 + (3 : Int32)).toNatClampNeg) - (hI h (hR h a0 25) (v2 + (1 : Int32)).toNatClampNeg)).toInt64) (((hI h (hR h a0 25) (v2 + (2 : Int32)).toNatClampNeg) - (hI h (hR h a0 25) v2.toNatClampNeg)).toInt64) a3 h) cw_X7_336 rfl ⟨⟨Nat.le_of_ble_eq_true rfl, Nat.le_of_ble_eq_true rfl⟩, Nat.le_of_ble_eq_true rfl⟩ rfl (by decide +kernel) (fun w11 g9 e10 => ?_)
        exact s_lret (pc := 137) rfl (by decide +kernel)
      · refine s_iinc (pc := 138) (L' := [(4, .int (a4 + (1 : Int32))), (6, .int v2), (0, .ref a0), (2, .int a2), (3, .int a3), (5, .int a5)]) (i := 4) (n := 1) 4 rfl rfl (by decide) rfl (by decide +kernel) ?_
        refine s_nmI0 (e := a4 + (1 : Int32)) (L := fun v6 => [(4, .int v6), (6, .int v2), (0, .ref a0), (2, .int a2), (3, .int a3), (5, .int a5)]) (fun v6 => ?_)
        refine S_sub [2, 3, 4, 0, 5] rfl ?_
        exact pX7_slope_b141 hr55 a0 a2 a3 v6 a5 h
theorem pX7_slope_l55 {h0 : xH}   : ∀ (k : Nat)  (a0 : Nat) (a2 : Int32) (a3 : Int32) (a4 : Int32) (a5 : Int32) (h : xH), S emJ kX7_slope h0 55 [(0, .ref a0), (2, .int a2), (3, .int a3), (4, .int a4), (5, .int a5)] [] h (fX7_slope_l55  k  a0 a2 a3 a4 a5 h) := by
  intro k
  induction k with
  | zero => intros; exact S_none
  | succ k ih => intro  a0 a2 a3 a4 a5 h; exact pX7_slope_b55 ih  a0 a2 a3 a4 a5 h
theorem pX7_slope_e    (a0 : Nat) (a1 : Int32) (a2 : Int32) (a3 : Int32) (h : xH) : S emJ kX7_slope h 0 [(0, .ref a0), (1, .int a1), (2, .int a2), (3, .int a3)] [] h (fX7_slope  a0 a1 a2 a3 h) := by
  unfold fX7_slope
  refine s_aload_n (pc := 0) (k0 := 0) (i := 0) rfl 0 rfl (by decide +kernel) ?_
  refine s_iconst (pc := 1) (n := 0) (v := (0 : Int32)) (by decide) (by decide +kernel) ?_
  refine S_gd (fun c1 => ?_)
  refine s_putI (pc := 2) (k := 0) c1 ft_X7_107 (fw_7_0 _ _) rfl rfl (by decide +kernel) ?_
  refine s_nmH (o := h) rfl (fun g2 e3 => ?_)
  refine s_iload_n (pc := 5) (k0 := 1) (i := 1) rfl 1 rfl (by decide +kernel) ?_
  refine s_cSi (pc := 6) [.int a1] (tX7_isStore a1 g2) cw_X7_247 rfl ⟨⟨Nat.le_of_ble_eq_true rfl, Nat.le_of_ble_eq_true rfl⟩, Nat.le_of_ble_eq_true rfl⟩ rfl (by decide +kernel) (fun w6 g4 e5 => ?_)
  refine s_if_eq (pc := 9) (off := 30) 39 (by decide +kernel) (by decide) (fun _ => ?_) (fun _ => ?_)
  · refine s_ldc2 (pc := 39) (v := (-9223372036854775808 : Int64)) (index := 334) (gd_of 1298 (by decide +kernel) rfl) (by decide +kernel) ?_
    exact s_lret (pc := 42) rfl (by decide +kernel)
  · refine s_iload_n (pc := 12) (k0 := 2) (i := 2) rfl 2 rfl (by decide +kernel) ?_
    refine s_i2l (pc := 13) (by decide +kernel) ?_
    refine s_lconst (pc := 14) (n := 0) (v := (0 : Int64)) (by decide) (by decide +kernel) ?_
    refine s_aload_n (pc := 15) (k0 := 0) (i := 0) rfl 0 rfl (by decide +kernel) ?_
    refine s_iload_n (pc := 16) (k0 := 1) (i := 1) rfl 1 rfl (by decide +kernel) ?_
    have c7 := kp (Le.tr e3 e5) c1 (by decide)
    refine s_cVi (pc := 17) [.int a1] (tX7_linesIn a0 a1 g4) c7 cw_X7_363 rfl ⟨⟨Nat.le_of_ble_eq_true rfl, Nat.le_of_ble_eq_true rfl⟩, Nat.le_of_ble_eq_true rfl⟩ rfl (by decide +kernel) (fun w10 g8 e9 => ?_)
    refine s_i2l (pc := 20) (by decide +kernel) ?_
    refine s_lconst (pc := 21) (n := 1) (v := (1 : Int64)) (by decide) (by decide +kernel) ?_
    refine s_lsub (pc := 22) (by decide +kernel) ?_
    refine s_cSi (pc := 23) [.long a2.toInt64, .long (0 : Int64), .long (w10.toInt64 - (1 : Int64))] (tX7_in a2.toInt64 (0 : Int64) (w10.toInt64 - (1 : Int64)) g8) cw_X7_114 rfl ⟨⟨Nat.le_of_ble_eq_true rfl, Nat.le_of_ble_eq_true rfl⟩, Nat.le_of_ble_eq_true rfl⟩ rfl (by decide +kernel) (fun w13 g11 e12 => ?_)
    refine s_if_eq (pc := 26) (off := 13) 39 (by decide +kernel) (by decide) (fun _ => ?_) (fun _ => ?_)
    · refine s_ldc2 (pc := 39) (v := (-9223372036854775808 : Int64)) (index := 334) (gd_of 1298 (by decide +kernel) rfl) (by decide +kernel) ?_
      exact s_lret (pc := 42) rfl (by decide +kernel)
    · refine s_iload_n (pc := 29) (k0 := 3) (i := 3) rfl 3 rfl (by decide +kernel) ?_
      refine s_i2l (pc := 30) (by decide +kernel) ?_
      refine s_lconst (pc := 31) (n := 0) (v := (0 : Int64)) (by decide) (by decide +kernel) ?_
      refine s_lconst (pc := 32) (n := 1) (v := (1 : Int64)) (by decide) (by decide +kernel) ?_
      refine s_cSi (pc := 33) [.long a3.toInt64, .long (0 : Int64), .long (1 : Int64)] (tX7_in a3.toInt64 (0 : Int64) (1 : Int64) g11) cw_X7_114 rfl ⟨⟨Nat.le_of_ble_eq_true rfl, Nat.le_of_ble_eq_true rfl⟩, Nat.le_of_ble_eq_true rfl⟩ rfl (by decide +kernel) (fun w16 g14 e15 => ?_)
      refine s_if_ne (pc := 36) (off := 7) 43 (by decide +kernel) (by decide) (fun _ => ?_) (fun _ => ?_)
      · refine s_ldc2 (pc := 39) (v := (-9223372036854775808 : Int64)) (index := 334) (gd_of 1298 (by decide +kernel) rfl) (by decide +kernel) ?_
        exact s_lret (pc := 42) rfl (by decide +kernel)
      · refine s_aload_n (pc := 43) (k0 := 0) (i := 0) rfl 0 rfl (by decide +kernel) ?_
        refine s_iload_n (pc := 44) (k0 := 1) (i := 1) rfl 1 rfl (by decide +kernel) ?_
        refine s_iconst (pc := 45) (n := 0) (v := (0 : Int32)) (by decide) (by decide +kernel) ?_
        have c17 := kp (Le.tr e9 (Le.tr e12 e15)) c7 (by decide)
        refine s_cVv (pc := 46) [.int a1, .int (0 : Int32)] (tX7_laySpans a0 a1 (0 : Int32) g14) c17 cw_X7_181 rfl ⟨⟨Nat.le_of_ble_eq_true rfl, Nat.le_of_ble_eq_true rfl⟩, Nat.le_of_ble_eq_true rfl⟩ rfl (by decide +kernel) (fun _ g18 e19 => ?_)
        refine s_iconst (pc := 49) (n := 0) (v := (0 : Int32)) (by decide) (by decide +kernel) ?_
        refine s_nmI (fun v20 => ?_)
        refine s_istore (pc := 50) (L' := [(4, .int v20), (0, .ref a0), (1, .int a1), (2, .int a2), (3, .int a3)]) (i := 4) (by decide) rfl (by decide +kernel) ?_
        refine s_iconst (pc := 52) (n := 0) (v := (0 : Int32)) (by decide) (by decide +kernel) ?_
        refine s_nmI (fun v21 => ?_)
        refine s_istore (pc := 53) (L' := [(5, .int v21), (4, .int v20), (0, .ref a0), (1, .int a1), (2, .int a2), (3, .int a3)]) (i := 5) (by decide) rfl (by decide +kernel) ?_
        refine S_sub [2, 4, 5, 1, 0] rfl ?_
        exact pX7_slope_l55 FU a0 a2 a3 v20 v21 g18
theorem tX7_slope (a0 : Nat) (a1 : Int32) (a2 : Int32) (a3 : Int32) (h : xH) : Ct yX7_slope kX7_slope emJ [.ref a0, .int a1, .int a2, .int a3] h (fX7_slope a0 a1 a2 a3 h) := Ct_of (by decide +kernel) rfl rfl rfl (Nat.le_of_ble_eq_true rfl) rfl (pX7_slope_e a0 a1 a2 a3 h)
def fX7_area_b93 (r31 : Nat → Int32 → Int32 → Int64 → Int32 → xH → Option (Int64 × xH)) (s0 : Int64) (s1 : Int64) (a0 : Nat) (a1 : Int32) (a2 : Int32) (a5 : Int32) (h : xH) : Option (Int64 × xH) :=
  lt (s1 + s0) (fun v1 =>
  lt (a5 + (1 : Int32)) (fun v2 =>
  r31 a0 a1 a2 v1 v2 h))
def fX7_area_b31 (r31 : Nat → Int32 → Int32 → Int64 → Int32 → xH → Option (Int64 × xH))  (a0 : Nat) (a1 : Int32) (a2 : Int32) (a3 : Int64) (a5 : Int32) (h : xH) : Option (Int64 × xH) :=
  if kc h a0 = 7 then
  bd (fX7_many a0 a1 h) (fun w4 g2 =>
  if w4 ≤ a5 then (
  bd (fX7_part a3 (7200 : Int64) a2 g2) (fun w7 g5 =>
  some (w7, g5)))
  else (
  bd (fX7_goes a0 a1 a5 g2) (fun w11 g9 =>
  if w11 = 0 then (
  fX7_area_b93 r31 (0 : Int64) a3 a0 a1 a2 a5 g9)
  else (
  bd (fX7_yOf a0 a1 a5 g9) (fun w15 g13 =>
  bd (fX7_yOf a0 a1 (a5 + (1 : Int32)) g13) (fun w19 g17 =>
  bd (fX7_xOf a0 a1 (a5 + (1 : Int32)) g17) (fun w23 g21 =>
  bd (fX7_xOf a0 a1 a5 g21) (fun w27 g25 =>
  fX7_area_b93 r31 (((w15 + w19).toInt64) * ((w23 - w27).toInt64)) a3 a0 a1 a2 a5 g25))))))))
  else none
def fX7_area_l31  : Nat → Nat → Int32 → Int32 → Int64 → Int32 → xH → Option (Int64 × xH)
  | 0 => fun _ _ _ _ _ _ => none
  | k + 1 => fX7_area_b31 (fX7_area_l31  k)
def fX7_area   (a0 : Nat) (a1 : Int32) (a2 : Int32) (h : xH) : Option (Int64 × xH) :=
  if kc h a0 = 7 then
  lt (sI h a0 0 (0 : Int32)) (fun g2 =>
  bd (fX7_isStore a1 g2) (fun w6 g4 =>
  if w6 = 0 then (
  some ((-9223372036854775808 : Int64), g4))
  else (
  bd (fX7_in a2.toInt64 (0 : Int64) (1 : Int64) g4) (fun w9 g7 =>
  if w9 = 0 then (
  some ((-9223372036854775808 : Int64), g7))
  else (
  lt (0 : Int64) (fun v10 =>
  lt (0 : Int32) (fun v11 =>
  fX7_area_l31 FU a0 a1 a2 v10 v11 g7)))))))
  else none
theorem pX7_area_b93 {h0 : xH} {r31 : Nat → Int32 → Int32 → Int64 → Int32 → xH → Option (Int64 × xH)} (hr31 : ∀  (a0 : Nat) (a1 : Int32) (a2 : Int32) (a3 : Int64) (a5 : Int32) (g : xH), S emJ kX7_area h0 31 [(0, .ref a0), (1, .int a1), (2, .int a2), (3, .long a3), (5, .int a5)] [] g (r31  a0 a1 a2 a3 a5 g)) (s0 : Int64) (s1 : Int64) (a0 : Nat) (a1 : Int32) (a2 : Int32) (a5 : Int32) (h : xH) : S emJ kX7_area h0 93 [(0, .ref a0), (1, .int a1), (2, .int a2), (5, .int a5)] [.long s0, .long s1] h (fX7_area_b93 r31 s0 s1 a0 a1 a2 a5 h) := by
  unfold fX7_area_b93
  refine s_ladd (pc := 93) (by decide +kernel) ?_
  refine s_nmJ (fun v1 => ?_)
  refine s_lstore_n (pc := 94) (L' := [(3, .long v1), (0, .ref a0), (1, .int a1), (2, .int a2), (5, .int a5)]) (k0 := 3) (i := 3) rfl (by decide) rfl (by decide +kernel) ?_
  refine s_iinc (pc := 95) (L' := [(5, .int (a5 + (1 : Int32))), (3, .long v1), (0, .ref a0), (1, .int a1), (2, .int a2)]) (i := 5) (n := 1) 4 rfl rfl (by decide) rfl (by decide +kernel) ?_
  refine s_nmI0 (e := a5 + (1 : Int32)) (L := fun v2 => [(5, .int v2), (3, .long v1), (0, .ref a0), (1, .int a1), (2, .int a2)]) (fun v2 => ?_)
  refine s_goto (pc := 98) (off := -67) 31 (by decide +kernel) (by decide) ?_
  refine S_sub [2, 3, 4, 1, 0] rfl ?_
  exact hr31 a0 a1 a2 v1 v2 h
theorem pX7_area_b31 {h0 : xH} {r31 : Nat → Int32 → Int32 → Int64 → Int32 → xH → Option (Int64 × xH)} (hr31 : ∀  (a0 : Nat) (a1 : Int32) (a2 : Int32) (a3 : Int64) (a5 : Int32) (g : xH), S emJ kX7_area h0 31 [(0, .ref a0), (1, .int a1), (2, .int a2), (3, .long a3), (5, .int a5)] [] g (r31  a0 a1 a2 a3 a5 g))  (a0 : Nat) (a1 : Int32) (a2 : Int32) (a3 : Int64) (a5 : Int32) (h : xH) : S emJ kX7_area h0 31 [(0, .ref a0), (1, .int a1), (2, .int a2), (3, .long a3), (5, .int a5)] [] h (fX7_area_b31 r31 a0 a1 a2 a3 a5 h) := by
  unfold fX7_area_b31
  refine s_iload (pc := 31) (i := 5) 4 rfl (by decide +kernel) ?_
  refine s_aload_n (pc := 33) (k0 := 0) (i := 0) rfl 0 rfl (by decide +kernel) ?_
  refine s_iload_n (pc := 34) (k0 := 1) (i := 1) rfl 1 rfl (by decide +kernel) ?_
  refine S_gd (fun c1 => ?_)
  refine s_cVi (pc := 35) [.int a1] (tX7_many a0 a1 h) c1 cw_X7_168 rfl ⟨⟨Nat.le_of_ble_eq_true rfl, Nat.le_of_ble_eq_true rfl⟩, Nat.le_of_ble_eq_true rfl⟩ rfl (by decide +kernel) (fun w4 g2 e3 => ?_)
  refine s_icmp_ge (pc := 38) (off := 63) 101 (by decide +kernel) (by decide) (fun _ => ?_) (fun _ => ?_)
  · refine s_lload_n (pc := 101) (k0 := 3) (i := 3) rfl 3 rfl (by decide +kernel) ?_
    refine s_ldc2 (pc := 102) (v := (7200 : Int64)) (index := 376) (gd_of 1367 (by decide +kernel) rfl) (by decide +kernel) ?_
    refine s_iload_n (pc := 105) (k0 := 2) (i := 2) rfl 2 rfl (by decide +kernel) ?_
    refine s_cSj (pc := 106) [.long a3, .long (7200 : Int64), .int a2] (tX7_part a3 (7200 : Int64) a2 g2) cw_X7_336 rfl ⟨⟨Nat.le_of_ble_eq_true rfl, Nat.le_of_ble_eq_true rfl⟩, Nat.le_of_ble_eq_true rfl⟩ rfl (by decide +kernel) (fun w7 g5 e6 => ?_)
    exact s_lret (pc := 109) rfl (by decide +kernel)
  · refine s_lload_n (pc := 41) (k0 := 3) (i := 3) rfl 3 rfl (by decide +kernel) ?_
    refine s_aload_n (pc := 42) (k0 := 0) (i := 0) rfl 0 rfl (by decide +kernel) ?_
    refine s_iload_n (pc := 43) (k0 := 1) (i := 1) rfl 1 rfl (by decide +kernel) ?_
    refine s_iload (pc := 44) (i := 5) 4 rfl (by decide +kernel) ?_
    have c8 := kp e3 c1 (by decide)
    refine s_cVi (pc := 46) [.int a1, .int a5] (tX7_goes a0 a1 a5 g2) c8 cw_X7_154 rfl ⟨⟨Nat.le_of_ble_eq_true rfl, Nat.le_of_ble_eq_true rfl⟩, Nat.le_of_ble_eq_true rfl⟩ rfl (by decide +kernel) (fun w11 g9 e10 => ?_)
    refine s_if_eq (pc := 49) (off := 43) 92 (by decide +kernel) (by decide) (fun _ => ?_) (fun _ => ?_)
    · refine s_lconst (pc := 92) (n := 0) (v := (0 : Int64)) (by decide) (by decide +kernel) ?_
      refine S_sub [0, 1, 2, 4] rfl ?_
      exact pX7_area_b93 hr31 (0 : Int64) a3 a0 a1 a2 a5 g9
    · refine s_aload_n (pc := 52) (k0 := 0) (i := 0) rfl 0 rfl (by decide +kernel) ?_
      refine s_iload_n (pc := 53) (k0 := 1) (i := 1) rfl 1 rfl (by decide +kernel) ?_
      refine s_iload (pc := 54) (i := 5) 4 rfl (by decide +kernel) ?_
      have c12 := kp e10 c8 (by decide)
      refine s_cVi (pc := 56) [.int a1, .int a5] (tX7_yOf a0 a1 a5 g9) c12 cw_X7_178 rfl ⟨⟨Nat.le_of_ble_eq_true rfl, Nat.le_of_ble_eq_true rfl⟩, Nat.le_of_ble_eq_true rfl⟩ rfl (by decide +kernel) (fun w15 g13 e14 => ?_)
      refine s_aload_n (pc := 59) (k0 := 0) (i := 0) rfl 0 rfl (by decide +kernel) ?_
      refine s_iload_n (pc := 60) (k0 := 1) (i := 1) rfl 1 rfl (by decide +kernel) ?_
      refine s_iload (pc := 61) (i := 5) 4 rfl (by decide +kernel) ?_
      refine s_iconst (pc := 63) (n := 1) (v := (1 : Int32)) (by decide) (by decide +kernel) ?_
      refine s_iadd (pc := 64) (by decide +kernel) ?_
      have c16 := kp e14 c12 (by decide)
      refine s_cVi (pc := 65) [.int a1, .int (a5 + (1 : Int32))] (tX7_yOf a0 a1 (a5 + (1 : Int32)) g13) c16 cw_X7_178 rfl ⟨⟨Nat.le_of_ble_eq_true rfl, Nat.le_of_ble_eq_true rfl⟩, Nat.le_of_ble_eq_true rfl⟩ rfl (by decide +kernel) (fun w19 g17 e18 => ?_)
      refine s_iadd (pc := 68) (by decide +kernel) ?_
      refine s_i2l (pc := 69) (by decide +kernel) ?_
      refine s_aload_n (pc := 70) (k0 := 0) (i := 0) rfl 0 rfl (by decide +kernel) ?_
      refine s_iload_n (pc := 71) (k0 := 1) (i := 1) rfl 1 rfl (by decide +kernel) ?_
      refine s_iload (pc := 72) (i := 5) 4 rfl (by decide +kernel) ?_
      refine s_iconst (pc := 74) (n := 1) (v := (1 : Int32)) (by decide) (by decide +kernel) ?_
      refine s_iadd (pc := 75) (by decide +kernel) ?_
      have c20 := kp e18 c16 (by decide)
      refine s_cVi (pc := 76) [.int a1, .int (a5 + (1 : Int32))] (tX7_xOf a0 a1 (a5 + (1 : Int32)) g17) c20 cw_X7_174 rfl ⟨⟨Nat.le_of_ble_eq_true rfl, Nat.le_of_ble_eq_true rfl⟩, Nat.le_of_ble_eq_true rfl⟩ rfl (by decide +kernel) (fun w23 g21 e22 => ?_)
      refine s_aload_n (pc := 79) (k0 := 0) (i := 0) rfl 0 rfl (by decide +kernel) ?_
      refine s_iload_n (pc := 80) (k0 := 1) (i := 1) rfl 1 rfl (by decide +kernel) ?_
      refine s_iload (pc := 81) (i := 5) 4 rfl (by decide +kernel) ?_
      have c24 := kp e22 c20 (by decide)
      refine s_cVi (pc := 83) [.int a1, .int a5] (tX7_xOf a0 a1 a5 g21) c24 cw_X7_174 rfl ⟨⟨Nat.le_of_ble_eq_true rfl, Nat.le_of_ble_eq_true rfl⟩, Nat.le_of_ble_eq_true rfl⟩ rfl (by decide +kernel) (fun w27 g25 e26 => ?_)
      refine s_isub (pc := 86) (by decide +kernel) ?_
      refine s_i2l (pc := 87) (by decide +kernel) ?_
      refine s_lmul (pc := 88) (by decide +kernel) ?_
      refine s_goto (pc := 89) (off := 4) 93 (by decide +kernel) (by decide) ?_
      refine S_sub [0, 1, 2, 4] rfl ?_
      exact pX7_area_b93 hr31 (((w15 + w19).toInt64) * ((w23 - w27).toInt64)) a3 a0 a1 a2 a5 g25
theorem pX7_area_l31 {h0 : xH}   : ∀ (k : Nat)  (a0 : Nat) (a1 : Int32) (a2 : Int32) (a3 : Int64) (a5 : Int32) (h : xH), S emJ kX7_area h0 31 [(0, .ref a0), (1, .int a1), (2, .int a2), (3, .long a3), (5, .int a5)] [] h (fX7_area_l31  k  a0 a1 a2 a3 a5 h) := by
  intro k
  induction k with
  | zero => intros; exact S_none
  | succ k ih => intro  a0 a1 a2 a3 a5 h; exact pX7_area_b31 ih  a0 a1 a2 a3 a5 h
theorem pX7_area_e    (a0 : Nat) (a1 : Int32) (a2 : Int32) (h : xH) : S emJ kX7_area h 0 [(0, .ref a0), (1, .int a1), (2, .int a2)] [] h (fX7_area  a0 a1 a2 h) := by
  unfold fX7_area
  refine s_aload_n (pc := 0) (k0 := 0) (i := 0) rfl 0 rfl (by decide +kernel) ?_
  refine s_iconst (pc := 1) (n := 0) (v := (0 : Int32)) (by decide) (by decide +kernel) ?_
  refine S_gd (fun c1 => ?_)
  refine s_putI (pc := 2) (k := 0) c1 ft_X7_107 (fw_7_0 _ _) rfl rfl (by decide +kernel) ?_
  refine s_nmH (o := h) rfl (fun g2 e3 => ?_)
  refine s_iload_n (pc := 5) (k0 := 1) (i := 1) rfl 1 rfl (by decide +kernel) ?_
  refine s_cSi (pc := 6) [.int a1] (tX7_isStore a1 g2) cw_X7_247 rfl ⟨⟨Nat.le_of_ble_eq_true rfl, Nat.le_of_ble_eq_true rfl⟩, Nat.le_of_ble_eq_true rfl⟩ rfl (by decide +kernel) (fun w6 g4 e5 => ?_)
  refine s_if_eq (pc := 9) (off := 13) 22 (by decide +kernel) (by decide) (fun _ => ?_) (fun _ => ?_)
  · refine s_ldc2 (pc := 22) (v := (-9223372036854775808 : Int64)) (index := 334) (gd_of 1298 (by decide +kernel) rfl) (by decide +kernel) ?_
    exact s_lret (pc := 25) rfl (by decide +kernel)
  · refine s_iload_n (pc := 12) (k0 := 2) (i := 2) rfl 2 rfl (by decide +kernel) ?_
    refine s_i2l (pc := 13) (by decide +kernel) ?_
    refine s_lconst (pc := 14) (n := 0) (v := (0 : Int64)) (by decide) (by decide +kernel) ?_
    refine s_lconst (pc := 15) (n := 1) (v := (1 : Int64)) (by decide) (by decide +kernel) ?_
    refine s_cSi (pc := 16) [.long a2.toInt64, .long (0 : Int64), .long (1 : Int64)] (tX7_in a2.toInt64 (0 : Int64) (1 : Int64) g4) cw_X7_114 rfl ⟨⟨Nat.le_of_ble_eq_true rfl, Nat.le_of_ble_eq_true rfl⟩, Nat.le_of_ble_eq_true rfl⟩ rfl (by decide +kernel) (fun w9 g7 e8 => ?_)
    refine s_if_ne (pc := 19) (off := 7) 26 (by decide +kernel) (by decide) (fun _ => ?_) (fun _ => ?_)
    · refine s_ldc2 (pc := 22) (v := (-9223372036854775808 : Int64)) (index := 334) (gd_of 1298 (by decide +kernel) rfl) (by decide +kernel) ?_
      exact s_lret (pc := 25) rfl (by decide +kernel)
    · refine s_lconst (pc := 26) (n := 0) (v := (0 : Int64)) (by decide) (by decide +kernel) ?_
      refine s_nmJ (fun v10 => ?_)
      refine s_lstore_n (pc := 27) (L' := [(3, .long v10), (0, .ref a0), (1, .int a1), (2, .int a2)]) (k0 := 3) (i := 3) rfl (by decide) rfl (by decide +kernel) ?_
      refine s_iconst (pc := 28) (n := 0) (v := (0 : Int32)) (by decide) (by decide +kernel) ?_
      refine s_nmI (fun v11 => ?_)
      refine s_istore (pc := 29) (L' := [(5, .int v11), (3, .long v10), (0, .ref a0), (1, .int a1), (2, .int a2)]) (i := 5) (by decide) rfl (by decide +kernel) ?_
      refine S_sub [2, 3, 4, 1, 0] rfl ?_
      exact pX7_area_l31 FU a0 a1 a2 v10 v11 g7
theorem tX7_area (a0 : Nat) (a1 : Int32) (a2 : Int32) (h : xH) : Ct yX7_area kX7_area emJ [.ref a0, .int a1, .int a2] h (fX7_area a0 a1 a2 h) := Ct_of (by decide +kernel) rfl rfl rfl (Nat.le_of_ble_eq_true rfl) rfl (pX7_area_e a0 a1 a2 h)
def fX7_meets_b86   (a0 : Nat) (h : xH) : Option (Unit × xH) :=
  if kc h a0 = 7 then
  lt (sI h a0 49 (0 : Int32)) (fun g2 =>
  some ((), g2))
  else none
def fX7_meets_b76   (a0 : Nat) (a1 : Int64) (a3 : Int64) (h : xH) : Option (Unit × xH) :=
  if kc h a0 = 7 then
  lt (sJ h a0 47 a1) (fun g2 =>
  lt (sJ g2 a0 48 a3) (fun g5 =>
  fX7_meets_b86 a0 g5))
  else none
def fX7_meets   (a0 : Nat) (a1 : Int64) (a3 : Int64) (a5 : Int32) (h : xH) : Option (Unit × xH) :=
  if kc h a0 = 7 then
  bd (fX7_leastAt a0 a1 a3 h) (fun w4 g2 =>
  if w4 = (-1 : Int32) then (
  some ((), g2))
  else (
  if kc g2 (hR g2 a0 22) = 9 then
  if ix w4 (kl g2 (hR g2 a0 22)) then
  if kc g2 (hR g2 a0 23) = 9 then
  if ix w4 (kl g2 (hR g2 a0 23)) then
  if kc g2 (hR g2 a0 24) = 9 then
  if ix w4 (kl g2 (hR g2 a0 24)) then
  bd (fX7_lie (((hJ g2 (hR g2 a0 22) w4.toNatClampNeg) * a3) + ((hJ g2 (hR g2 a0 23) w4.toNatClampNeg) * a1)) ((hJ g2 (hR g2 a0 24) w4.toNatClampNeg) * a3) a5.toInt64 (1 : Int64) g2) (fun w14 g12 =>
  if w14 = 0 then (
  if (hI g12 a0 49) = 0 then (
  bd (fX7_lie a1 a3 (hJ g12 a0 47) (hJ g12 a0 48) g12) (fun w18 g16 =>
  if 0 ≤ w18 then (
  fX7_meets_b86 a0 g16)
  else (
  fX7_meets_b76 a0 a1 a3 g16)))
  else (
  fX7_meets_b76 a0 a1 a3 g12))
  else (
  some ((), g12)))
  else none
  else none
  else none
  else none
  else none
  else none))
  else none
theorem pX7_meets_b86 {h0 : xH}    (a0 : Nat) (h : xH) : S emV kX7_meets h0 86 [(0, .ref a0)] [] h (fX7_meets_b86  a0 h) := by
  unfold fX7_meets_b86
  refine s_aload_n (pc := 86) (k0 := 0) (i := 0) rfl 0 rfl (by decide +kernel) ?_
  refine s_iconst (pc := 87) (n := 0) (v := (0 : Int32)) (by decide) (by decide +kernel) ?_
  refine S_gd (fun c1 => ?_)
  refine s_putZ (pc := 88) (k := 49) (by decide) c1 ft_X7_378 (fw_7_49 _ _) rfl rfl (by decide +kernel) ?_
  refine s_nmH (o := h) rfl (fun g2 e3 => ?_)
  exact s_vret (pc := 91) rfl (by decide +kernel)
theorem pX7_meets_b76 {h0 : xH}    (a0 : Nat) (a1 : Int64) (a3 : Int64) (h : xH) : S emV kX7_meets h0 76 [(0, .ref a0), (1, .long a1), (3, .long a3)] [] h (fX7_meets_b76  a0 a1 a3 h) := by
  unfold fX7_meets_b76
  refine s_aload_n (pc := 76) (k0 := 0) (i := 0) rfl 0 rfl (by decide +kernel) ?_
  refine s_lload_n (pc := 77) (k0 := 1) (i := 1) rfl 1 rfl (by decide +kernel) ?_
  refine S_gd (fun c1 => ?_)
  refine s_putJ (pc := 78) (k := 47) c1 ft_X7_381 (fw_7_47 _ _) rfl rfl (by decide +kernel) ?_
  refine s_nmH (o := h) rfl (fun g2 e3 => ?_)
  refine s_aload_n (pc := 81) (k0 := 0) (i := 0) rfl 0 rfl (by decide +kernel) ?_
  refine s_lload_n (pc := 82) (k0 := 3) (i := 3) rfl 2 rfl (by decide +kernel) ?_
  have c4 := kp e3 c1 (by decide)
  refine s_putJ (pc := 83) (k := 48) c4 ft_X7_384 (fw_7_48 _ _) rfl rfl (by decide +kernel) ?_
  refine s_nmH (o := g2) rfl (fun g5 e6 => ?_)
  refine S_sub [0] rfl ?_
  exact pX7_meets_b86 a0 g5
theorem pX7_meets_e    (a0 : Nat) (a1 : Int64) (a3 : Int64) (a5 : Int32) (h : xH) : S emV kX7_meets h 0 [(0, .ref a0), (1, .long a1), (3, .long a3), (5, .int a5)] [] h (fX7_meets  a0 a1 a3 a5 h) := by
  unfold fX7_meets
  refine s_aload_n (pc := 0) (k0 := 0) (i := 0) rfl 0 rfl (by decide +kernel) ?_
  refine s_lload_n (pc := 1) (k0 := 1) (i := 1) rfl 1 rfl (by decide +kernel) ?_
  refine s_lload_n (pc := 2) (k0 := 3) (i := 3) rfl 2 rfl (by decide +kernel) ?_
  refine S_gd (fun c1 => ?_)
  refine s_cVi (pc := 3) [.long a1, .long a3] (tX7_leastAt a0 a1 a3 h) c1 cw_X7_233 rfl ⟨⟨Nat.le_of_ble_eq_true rfl, Nat.le_of_ble_eq_true rfl⟩, Nat.le_of_ble_eq_true rfl⟩ rfl (by decide +kernel) (fun w4 g2 e3 => ?_)
  refine s_istore (pc := 6) (L' := [(6, .int w4), (0, .ref a0), (1, .long a1), (3, .long a3), (5, .int a5)]) (i := 6) (by decide) rfl (by decide +kernel) ?_
  refine s_iload (pc := 8) (i := 6) 0 rfl (by decide +kernel) ?_
  refine s_iconst (pc := 10) (n := -1) (v := (-1 : Int32)) (by decide) (by decide +kernel) ?_
  refine s_icmp_eq (pc := 11) (off := 41) 52 (by decide +kernel) (by decide) (fun _ => ?_) (fun _ => ?_)
  · exact s_vret (pc := 52) rfl (by decide +kernel)
  · refine s_aload_n (pc := 14) (k0 := 0) (i := 0) rfl 1 rfl (by decide +kernel) ?_
    have c5 := kp e3 c1 (by decide)
    refine s_getR (pc := 15) (k := 22) c5 ft_X7_63 rfl (by decide +kernel) ?_
    refine s_iload (pc := 18) (i := 6) 0 rfl (by decide +kernel) ?_
    refine S_gd (fun c6 => ?_)
    refine S_gd (fun c7 => ?_)
    refine s_lald (pc := 20) c6 c7 (by decide +kernel) ?_
    refine s_lload_n (pc := 21) (k0 := 3) (i := 3) rfl 3 rfl (by decide +kernel) ?_
    refine s_lmul (pc := 22) (by decide +kernel) ?_
    refine s_aload_n (pc := 23) (k0 := 0) (i := 0) rfl 1 rfl (by decide +kernel) ?_
    refine s_getR (pc := 24) (k := 23) c5 ft_X7_66 rfl (by decide +kernel) ?_
    refine s_iload (pc := 27) (i := 6) 0 rfl (by decide +kernel) ?_
    refine S_gd (fun c8 => ?_)
    refine S_gd (fun c9 => ?_)
    refine s_lald (pc := 29) c8 c9 (by decide +kernel) ?_
    refine s_lload_n (pc := 30) (k0 := 1) (i := 1) rfl 2 rfl (by decide +kernel) ?_
    refine s_lmul (pc := 31) (by decide +kernel) ?_
    refine s_ladd (pc := 32) (by decide +kernel) ?_
    refine s_aload_n (pc := 33) (k0 := 0) (i := 0) rfl 1 rfl (by decide +kernel) ?_
    refine s_getR (pc := 34) (k := 24) c5 ft_X7_69 rfl (by decide +kernel) ?_
    refine s_iload (pc := 37) (i := 6) 0 rfl (by decide +kernel) ?_
    refine S_gd (fun c10 => ?_)
    refine S_gd (fun c11 => ?_)
    refine s_lald (pc := 39) c10 c11 (by decide +kernel) ?_
    refine s_lload_n (pc := 40) (k0 := 3) (i := 3) rfl 3 rfl (by decide +kernel) ?_
    refine s_lmul (pc := 41) (by decide +kernel) ?_
    refine s_iload (pc := 42) (i := 5) 4 rfl (by decide +kernel) ?_
    refine s_i2l (pc := 44) (by decide +kernel) ?_
    refine s_lconst (pc := 45) (n := 1) (v := (1 : Int64)) (by decide) (by decide +kernel) ?_
    refine s_cSi (pc := 46) [.long (((hJ g2 (hR g2 a0 22) w4.toNatClampNeg) * a3) + ((hJ g2 (hR g2 a0 23) w4.toNatClampNeg) * a1)), .long ((hJ g2 (hR g2 a0 24) w4.toNatClampNeg) * a3), .long a5.toInt64, .long (1 : Int64)] (tX7_lie (((hJ g2 (hR g2 a0 22) w4.toNatClampNeg) * a3) + ((hJ g2 (hR g2 a0 23) w4.toNatClampNeg) * a1)) ((hJ g2 (hR g2 a0 24) w4.toNatClampNeg) * a3) a5.toInt64 (1 : Int64) g2) cw_X7_189 rfl ⟨⟨Nat.le_of_ble_eq_true rfl, Nat.le_of_ble_eq_true rfl⟩, Nat.le_of_ble_eq_true rfl⟩ rfl (by decide +kernel) (fun w14 g12 e13 => ?_)
    refine s_if_eq (pc := 49) (off := 4) 53 (by decide +kernel) (by decide) (fun _ => ?_) (fun _ => ?_)
    · refine s_aload_n (pc := 53) (k0 := 0) (i := 0) rfl 1 rfl (by decide +kernel) ?_
      have c15 := kp e13 c5 (by decide)
      refine s_getI (pc := 54) (k := 49) c15 ft_X7_378 rfl (by decide +kernel) ?_
      refine s_if_ne (pc := 57) (off := 19) 76 (by decide +kernel) (by decide) (fun _ => ?_) (fun _ => ?_)
      · refine s_lload_n (pc := 60) (k0 := 1) (i := 1) rfl 2 rfl (by decide +kernel) ?_
        refine s_lload_n (pc := 61) (k0 := 3) (i := 3) rfl 3 rfl (by decide +kernel) ?_
        refine s_aload_n (pc := 62) (k0 := 0) (i := 0) rfl 1 rfl (by decide +kernel) ?_
        refine s_getJ (pc := 63) (k := 47) c15 ft_X7_381 rfl (by decide +kernel) ?_
        refine s_aload_n (pc := 66) (k0 := 0) (i := 0) rfl 1 rfl (by decide +kernel) ?_
        refine s_getJ (pc := 67) (k := 48) c15 ft_X7_384 rfl (by decide +kernel) ?_
        refine s_cSi (pc := 70) [.long a1, .long a3, .long (hJ g12 a0 47), .long (hJ g12 a0 48)] (tX7_lie a1 a3 (hJ g12 a0 47) (hJ g12 a0 48) g12) cw_X7_189 rfl ⟨⟨Nat.le_of_ble_eq_true rfl, Nat.le_of_ble_eq_true rfl⟩, Nat.le_of_ble_eq_true rfl⟩ rfl (by decide +kernel) (fun w18 g16 e17 => ?_)
        refine s_if_ge (pc := 73) (off := 13) 86 (by decide +kernel) (by decide) (fun _ => ?_) (fun _ => ?_)
        · refine S_sub [1] rfl ?_
          exact pX7_meets_b86 a0 g16
        · refine S_sub [1, 2, 3] rfl ?_
          exact pX7_meets_b76 a0 a1 a3 g16
      · refine S_sub [1, 2, 3] rfl ?_
        exact pX7_meets_b76 a0 a1 a3 g12
    · exact s_vret (pc := 52) rfl (by decide +kernel)
theorem tX7_meets (a0 : Nat) (a1 : Int64) (a3 : Int64) (a5 : Int32) (h : xH) : Ct yX7_meets kX7_meets emV [.ref a0, .long a1, .long a3, .int a5] h (fX7_meets a0 a1 a3 a5 h) := Ct_of (by decide +kernel) rfl rfl rfl (Nat.le_of_ble_eq_true rfl) rfl (pX7_meets_e a0 a1 a3 a5 h)
def fX7_where_b216 (r85 : Nat → Int32 → Int32 → Int32 → xH → Option (Int64 × xH))  (a0 : Nat) (a2 : Int32) (a3 : Int32) (a4 : Int32) (h : xH) : Option (Int64 × xH) :=
  lt (a4 + (1 : Int32)) (fun v1 =>
  r85 a0 a2 a3 v1 h)
def fX7_where_b167 (r85 : Nat → Int32 → Int32 → Int32 → xH → Option (Int64 × xH)) (s0 : Int64) (a0 : Nat) (a2 : Int32) (a3 : Int32) (a4 : Int32) (a9 : Int64) (h : xH) : Option (Int64 × xH) :=
  if kc h a0 = 7 then
  if kc h (hR h a0 20) = 8 then
  if ix a4 (kl h (hR h a0 20)) then
  bd (fX7_lie ((hI h (hR h a0 20) a4.toNatClampNeg).toInt64) (1 : Int64) a9 s0 h) (fun w6 g4 =>
  if 0 < w6 then (
  fX7_where_b216 r85 a0 a2 a3 a4 g4)
  else (
  if kc g4 (hR g4 a0 21) = 8 then
  if ix a4 (kl g4 (hR g4 a0 21)) then
  bd (fX7_lie ((hI g4 (hR g4 a0 21) a4.toNatClampNeg).toInt64) (1 : Int64) a9 s0 g4) (fun w12 g10 =>
  if w12 < 0 then (
  fX7_where_b216 r85 a0 a2 a3 a4 g10)
  else (
  bd (fX7_meets a0 a9 s0 a2 g10) (fun _ g14 =>
  fX7_where_b216 r85 a0 a2 a3 a4 g14)))
  else none
  else none))
  else none
  else none
  else none
def fX7_where_b150 (r85 : Nat → Int32 → Int32 → Int32 → xH → Option (Int64 × xH)) (s0 : Int64) (a0 : Nat) (a2 : Int32) (a3 : Int32) (a4 : Int32) (a7 : Int64) (h : xH) : Option (Int64 × xH) :=
  if 0 ≤ (lg_cmp a7 (0 : Int64)) then (
  fX7_where_b167 r85 a7 a0 a2 a3 a4 s0 h)
  else (
  fX7_where_b167 r85 (-a7) a0 a2 a3 a4 s0 h)
def fX7_where_b85 (r85 : Nat → Int32 → Int32 → Int32 → xH → Option (Int64 × xH))  (a0 : Nat) (a2 : Int32) (a3 : Int32) (a4 : Int32) (h : xH) : Option (Int64 × xH) :=
  if kc h a0 = 7 then
  if (hI h a0 19) ≤ a4 then (
  if (hI h a0 49) = 0 then (
  bd (fX7_part (hJ h a0 47) ((60 : Int64) * (hJ h a0 48)) a3 h) (fun w4 g2 =>
  some (w4, g2)))
  else (
  some ((-9223372036854775808 : Int64), h)))
  else (
  if kc h (hR h a0 23) = 9 then
  if ix a4 (kl h (hR h a0 23)) then
  if (lg_cmp (hJ h (hR h a0 23) a4.toNatClampNeg) (0 : Int64)) = 0 then (
  fX7_where_b216 r85 a0 a2 a3 a4 h)
  else (
  if kc h (hR h a0 24) = 9 then
  if ix a4 (kl h (hR h a0 24)) then
  if kc h (hR h a0 22) = 9 then
  if ix a4 (kl h (hR h a0 22)) then
  lt ((a2.toInt64 * (hJ h (hR h a0 24) a4.toNatClampNeg)) - (hJ h (hR h a0 22) a4.toNatClampNeg)) (fun v11 =>
  lt (hJ h (hR h a0 23) a4.toNatClampNeg) (fun v12 =>
  if 0 ≤ (lg_cmp v12 (0 : Int64)) then (
  fX7_where_b150 r85 v11 a0 a2 a3 a4 v12 h)
  else (
  fX7_where_b150 r85 (-v11) a0 a2 a3 a4 v12 h)))
  else none
  else none
  else none
  else none)
  else none
  else none)
  else none
def fX7_where_l85  : Nat → Nat → Int32 → Int32 → Int32 → xH → Option (Int64 × xH)
  | 0 => fun _ _ _ _ _ => none
  | k + 1 => fX7_where_b85 (fX7_where_l85  k)
def fX7_where_b52 (r52 : Nat → Int32 → Int32 → Int32 → Int32 → xH → Option (Int64 × xH))  (a0 : Nat) (a1 : Int32) (a2 : Int32) (a3 : Int32) (a4 : Int32) (h : xH) : Option (Int64 × xH) :=
  if kc h a0 = 7 then
  bd (fX7_many a0 a1 h) (fun w4 g2 =>
  if w4 ≤ a4 then (
  lt (0 : Int32) (fun v5 =>
  fX7_where_l85 FU a0 a2 a3 v5 g2))
  else (
  bd (fX7_xOf a0 a1 a4 g2) (fun w9 g7 =>
  bd (fX7_meets a0 w9.toInt64 (1 : Int64) a2 g7) (fun _ g11 =>
  lt (a4 + (1 : Int32)) (fun v13 =>
  r52 a0 a1 a2 a3 v13 g11)))))
  else none
def fX7_where_l52  : Nat → Nat → Int32 → Int32 → Int32 → Int32 → xH → Option (Int64 × xH)
  | 0 => fun _ _ _ _ _ _ => none
  | k + 1 => fX7_where_b52 (fX7_where_l52  k)
def fX7_where   (a0 : Nat) (a1 : Int32) (a2 : Int32) (a3 : Int32) (h : xH) : Option (Int64 × xH) :=
  if kc h a0 = 7 then
  lt (sI h a0 0 (0 : Int32)) (fun g2 =>
  bd (fX7_isStore a1 g2) (fun w6 g4 =>
  if w6 = 0 then (
  some ((-9223372036854775808 : Int64), g4))
  else (
  bd (fX7_isPlace a2.toInt64 g4) (fun w9 g7 =>
  if w9 = 0 then (
  some ((-9223372036854775808 : Int64), g7))
  else (
  bd (fX7_in a3.toInt64 (0 : Int64) (1 : Int64) g7) (fun w12 g10 =>
  if w12 = 0 then (
  some ((-9223372036854775808 : Int64), g10))
  else (
  lt (sI g10 a0 19 (0 : Int32)) (fun g14 =>
  bd (fX7_linesOf a0 a1 g14) (fun _ g17 =>
  lt (sI g17 a0 49 (1 : Int32)) (fun g20 =>
  lt (0 : Int32) (fun v22 =>
  fX7_where_l52 FU a0 a1 a2 a3 v22 g20)))))))))))
  else none
theorem pX7_where_b216 {h0 : xH} {r85 : Nat → Int32 → Int32 → Int32 → xH → Option (Int64 × xH)} (hr85 : ∀  (a0 : Nat) (a2 : Int32) (a3 : Int32) (a4 : Int32) (g : xH), S emJ kX7_where h0 85 [(0, .ref a0), (2, .int a2), (3, .int a3), (4, .int a4)] [] g (r85  a0 a2 a3 a4 g))  (a0 : Nat) (a2 : Int32) (a3 : Int32) (a4 : Int32) (h : xH) : S emJ kX7_where h0 216 [(0, .ref a0), (2, .int a2), (3, .int a3), (4, .int a4)] [] h (fX7_where_b216 r85 a0 a2 a3 a4 h) := by
  unfold fX7_where_b216
  refine s_iinc (pc := 216) (L' := [(4, .int (a4 + (1 : Int32))), (0, .ref a0), (2, .int a2), (3, .int a3)]) (i := 4) (n := 1) 3 rfl rfl (by decide) rfl (by decide +kernel) ?_
  refine s_nmI0 (e := a4 + (1 : Int32)) (L := fun v1 => [(4, .int v1), (0, .ref a0), (2, .int a2), (3, .int a3)]) (fun v1 => ?_)
  refine s_goto (pc := 219) (off := -134) 85 (by decide +kernel) (by decide) ?_
  refine S_sub [1, 2, 3, 0] rfl ?_
  exact hr85 a0 a2 a3 v1 h
theorem pX7_where_b167 {h0 : xH} {r85 : Nat → Int32 → Int32 → Int32 → xH → Option (Int64 × xH)} (hr85 : ∀  (a0 : Nat) (a2 : Int32) (a3 : Int32) (a4 : Int32) (g : xH), S emJ kX7_where h0 85 [(0, .ref a0), (2, .int a2), (3, .int a3), (4, .int a4)] [] g (r85  a0 a2 a3 a4 g)) (s0 : Int64) (a0 : Nat) (a2 : Int32) (a3 : Int32) (a4 : Int32) (a9 : Int64) (h : xH) : S emJ kX7_where h0 167 [(0, .ref a0), (2, .int a2), (3, .int a3), (4, .int a4), (9, .long a9)] [.long s0] h (fX7_where_b167 r85 s0 a0 a2 a3 a4 a9 h) := by
  unfold fX7_where_b167
  refine s_lstore (pc := 167) (L' := [(11, .long s0), (0, .ref a0), (2, .int a2), (3, .int a3), (4, .int a4), (9, .long a9)]) (i := 11) (by decide) rfl (by decide +kernel) ?_
  refine s_aload_n (pc := 169) (k0 := 0) (i := 0) rfl 1 rfl (by decide +kernel) ?_
  refine S_gd (fun c1 => ?_)
  refine s_getR (pc := 170) (k := 20) c1 ft_X7_57 rfl (by decide +kernel) ?_
  refine s_iload (pc := 173) (i := 4) 4 rfl (by decide +kernel) ?_
  refine S_gd (fun c2 => ?_)
  refine S_gd (fun c3 => ?_)
  refine s_iald (pc := 175) c2 c3 (by decide +kernel) ?_
  refine s_i2l (pc := 176) (by decide +kernel) ?_
  refine s_lconst (pc := 177) (n := 1) (v := (1 : Int64)) (by decide) (by decide +kernel) ?_
  refine s_lload (pc := 178) (i := 9) 5 rfl (by decide +kernel) ?_
  refine s_lload (pc := 180) (i := 11) 0 rfl (by decide +kernel) ?_
  refine s_cSi (pc := 182) [.long ((hI h (hR h a0 20) a4.toNatClampNeg).toInt64), .long (1 : Int64), .long a9, .long s0] (tX7_lie ((hI h (hR h a0 20) a4.toNatClampNeg).toInt64) (1 : Int64) a9 s0 h) cw_X7_189 rfl ⟨⟨Nat.le_of_ble_eq_true rfl, Nat.le_of_ble_eq_true rfl⟩, Nat.le_of_ble_eq_true rfl⟩ rfl (by decide +kernel) (fun w6 g4 e5 => ?_)
  refine s_if_gt (pc := 185) (off := 31) 216 (by decide +kernel) (by decide) (fun _ => ?_) (fun _ => ?_)
  · refine S_sub [1, 2, 3, 4] rfl ?_
    exact pX7_where_b216 hr85 a0 a2 a3 a4 g4
  · refine s_aload_n (pc := 188) (k0 := 0) (i := 0) rfl 1 rfl (by decide +kernel) ?_
    have c7 := kp e5 c1 (by decide)
    refine s_getR (pc := 189) (k := 21) c7 ft_X7_60 rfl (by decide +kernel) ?_
    refine s_iload (pc := 192) (i := 4) 4 rfl (by decide +kernel) ?_
    refine S_gd (fun c8 => ?_)
    refine S_gd (fun c9 => ?_)
    refine s_iald (pc := 194) c8 c9 (by decide +kernel) ?_
    refine s_i2l (pc := 195) (by decide +kernel) ?_
    refine s_lconst (pc := 196) (n := 1) (v := (1 : Int64)) (by decide) (by decide +kernel) ?_
    refine s_lload (pc := 197) (i := 9) 5 rfl (by decide +kernel) ?_
    refine s_lload (pc := 199) (i := 11) 0 rfl (by decide +kernel) ?_
    refine s_cSi (pc := 201) [.long ((hI g4 (hR g4 a0 21) a4.toNatClampNeg).toInt64), .long (1 : Int64), .long a9, .long s0] (tX7_lie ((hI g4 (hR g4 a0 21) a4.toNatClampNeg).toInt64) (1 : Int64) a9 s0 g4) cw_X7_189 rfl ⟨⟨Nat.le_of_ble_eq_true rfl, Nat.le_of_ble_eq_true rfl⟩, Nat.le_of_ble_eq_true rfl⟩ rfl (by decide +kernel) (fun w12 g10 e11 => ?_)
    refine s_if_lt (pc := 204) (off := 12) 216 (by decide +kernel) (by decide) (fun _ => ?_) (fun _ => ?_)
    · refine S_sub [1, 2, 3, 4] rfl ?_
      exact pX7_where_b216 hr85 a0 a2 a3 a4 g10
    · refine s_aload_n (pc := 207) (k0 := 0) (i := 0) rfl 1 rfl (by decide +kernel) ?_
      refine s_lload (pc := 208) (i := 9) 5 rfl (by decide +kernel) ?_
      refine s_lload (pc := 210) (i := 11) 0 rfl (by decide +kernel) ?_
      refine s_iload_n (pc := 212) (k0 := 2) (i := 2) rfl 2 rfl (by decide +kernel) ?_
      have c13 := kp e11 c7 (by decide)
      refine s_cVv (pc := 213) [.long a9, .long s0, .int a2] (tX7_meets a0 a9 s0 a2 g10) c13 cw_X7_387 rfl ⟨⟨Nat.le_of_ble_eq_true rfl, Nat.le_of_ble_eq_true rfl⟩, Nat.le_of_ble_eq_true rfl⟩ rfl (by decide +kernel) (fun _ g14 e15 => ?_)
      refine S_sub [1, 2, 3, 4] rfl ?_
      exact pX7_where_b216 hr85 a0 a2 a3 a4 g14
theorem pX7_where_b150 {h0 : xH} {r85 : Nat → Int32 → Int32 → Int32 → xH → Option (Int64 × xH)} (hr85 : ∀  (a0 : Nat) (a2 : Int32) (a3 : Int32) (a4 : Int32) (g : xH), S emJ kX7_where h0 85 [(0, .ref a0), (2, .int a2), (3, .int a3), (4, .int a4)] [] g (r85  a0 a2 a3 a4 g)) (s0 : Int64) (a0 : Nat) (a2 : Int32) (a3 : Int32) (a4 : Int32) (a7 : Int64) (h : xH) : S emJ kX7_where h0 150 [(0, .ref a0), (2, .int a2), (3, .int a3), (4, .int a4), (7, .long a7)] [.long s0] h (fX7_where_b150 r85 s0 a0 a2 a3 a4 a7 h) := by
  unfold fX7_where_b150
  refine s_lstore (pc := 150) (L' := [(9, .long s0), (0, .ref a0), (2, .int a2), (3, .int a3), (4, .int a4), (7, .long a7)]) (i := 9) (by decide) rfl (by decide +kernel) ?_
  refine s_lload (pc := 152) (i := 7) 5 rfl (by decide +kernel) ?_
  refine s_lconst (pc := 154) (n := 0) (v := (0 : Int64)) (by decide) (by decide +kernel) ?_
  refine s_lcmp (pc := 155) (by decide +kernel) ?_
  refine s_if_ge (pc := 156) (off := 9) 165 (by decide +kernel) (by decide) (fun _ => ?_) (fun _ => ?_)
  · refine s_lload (pc := 165) (i := 7) 5 rfl (by decide +kernel) ?_
    refine S_sub [1, 2, 3, 4, 0] rfl ?_
    exact pX7_where_b167 hr85 a7 a0 a2 a3 a4 s0 h
  · refine s_lload (pc := 159) (i := 7) 5 rfl (by decide +kernel) ?_
    refine s_lneg (pc := 161) (by decide +kernel) ?_
    refine s_goto (pc := 162) (off := 5) 167 (by decide +kernel) (by decide) ?_
    refine S_sub [1, 2, 3, 4, 0] rfl ?_
    exact pX7_where_b167 hr85 (-a7) a0 a2 a3 a4 s0 h
theorem pX7_where_b85 {h0 : xH} {r85 : Nat → Int32 → Int32 → Int32 → xH → Option (Int64 × xH)} (hr85 : ∀  (a0 : Nat) (a2 : Int32) (a3 : Int32) (a4 : Int32) (g : xH), S emJ kX7_where h0 85 [(0, .ref a0), (2, .int a2), (3, .int a3), (4, .int a4)] [] g (r85  a0 a2 a3 a4 g))  (a0 : Nat) (a2 : Int32) (a3 : Int32) (a4 : Int32) (h : xH) : S emJ kX7_where h0 85 [(0, .ref a0), (2, .int a2), (3, .int a3), (4, .int a4)] [] h (fX7_where_b85 r85 a0 a2 a3 a4 h) := by
  unfold fX7_where_b85
  refine s_iload (pc := 85) (i := 4) 3 rfl (by decide +kernel) ?_
  refine s_aload_n (pc := 87) (k0 := 0) (i := 0) rfl 0 rfl (by decide +kernel) ?_
  refine S_gd (fun c1 => ?_)
  refine s_getI (pc := 88) (k := 19) c1 ft_X7_158 rfl (by decide +kernel) ?_
  refine s_icmp_ge (pc := 91) (off := 131) 222 (by decide +kernel) (by decide) (fun _ => ?_) (fun _ => ?_)
  · refine s_aload_n (pc := 222) (k0 := 0) (i := 0) rfl 0 rfl (by decide +kernel) ?_
    refine s_getI (pc := 223) (k := 49) c1 ft_X7_378 rfl (by decide +kernel) ?_
    refine s_if_eq (pc := 226) (off := 9) 235 (by decide +kernel) (by decide) (fun _ => ?_) (fun _ => ?_)
    · refine s_aload_n (pc := 235) (k0 := 0) (i := 0) rfl 0 rfl (by decide +kernel) ?_
      refine s_getJ (pc := 236) (k := 47) c1 ft_X7_381 rfl (by decide +kernel) ?_
      refine s_ldc2 (pc := 239) (v := (60 : Int64)) (index := 274) (gd_of 1214 (by decide +kernel) rfl) (by decide +kernel) ?_
      refine s_aload_n (pc := 242) (k0 := 0) (i := 0) rfl 0 rfl (by decide +kernel) ?_
      refine s_getJ (pc := 243) (k := 48) c1 ft_X7_384 rfl (by decide +kernel) ?_
      refine s_lmul (pc := 246) (by decide +kernel) ?_
      refine s_iload_n (pc := 247) (k0 := 3) (i := 3) rfl 2 rfl (by decide +kernel) ?_
      refine s_cSj (pc := 248) [.long (hJ h a0 47), .long ((60 : Int64) * (hJ h a0 48)), .int a3] (tX7_part (hJ h a0 47) ((60 : Int64) * (hJ h a0 48)) a3 h) cw_X7_336 rfl ⟨⟨Nat.le_of_ble_eq_true rfl, Nat.le_of_ble_eq_true rfl⟩, Nat.le_of_ble_eq_true rfl⟩ rfl (by decide +kernel) (fun w4 g2 e3 => ?_)
      exact s_lret (pc := 251) rfl (by decide +kernel)
    · refine s_ldc2 (pc := 229) (v := (-9223372036854775808 : Int64)) (index := 334) (gd_of 1298 (by decide +kernel) rfl) (by decide +kernel) ?_
      refine s_goto (pc := 232) (off := 19) 251 (by decide +kernel) (by decide) ?_
      exact s_lret (pc := 251) rfl (by decide +kernel)
  · refine s_aload_n (pc := 94) (k0 := 0) (i := 0) rfl 0 rfl (by decide +kernel) ?_
    refine s_getR (pc := 95) (k := 23) c1 ft_X7_66 rfl (by decide +kernel) ?_
    refine s_iload (pc := 98) (i := 4) 3 rfl (by decide +kernel) ?_
    refine S_gd (fun c5 => ?_)
    refine S_gd (fun c6 => ?_)
    refine s_lald (pc := 100) c5 c6 (by decide +kernel) ?_
    refine s_lconst (pc := 101) (n := 0) (v := (0 : Int64)) (by decide) (by decide +kernel) ?_
    refine s_lcmp (pc := 102) (by decide +kernel) ?_
    refine s_if_eq (pc := 103) (off := 113) 216 (by decide +kernel) (by decide) (fun _ => ?_) (fun _ => ?_)
    · exact pX7_where_b216 hr85 a0 a2 a3 a4 h
    · refine s_iload_n (pc := 106) (k0 := 2) (i := 2) rfl 1 rfl (by decide +kernel) ?_
      refine s_i2l (pc := 107) (by decide +kernel) ?_
      refine s_aload_n (pc := 108) (k0 := 0) (i := 0) rfl 0 rfl (by decide +kernel) ?_
      refine s_getR (pc := 109) (k := 24) c1 ft_X7_69 rfl (by decide +kernel) ?_
      refine s_iload (pc := 112) (i := 4) 3 rfl (by decide +kernel) ?_
      refine S_gd (fun c7 => ?_)
      refine S_gd (fun c8 => ?_)
      refine s_lald (pc := 114) c7 c8 (by decide +kernel) ?_
      refine s_lmul (pc := 115) (by decide +kernel) ?_
      refine s_aload_n (pc := 116) (k0 := 0) (i := 0) rfl 0 rfl (by decide +kernel) ?_
      refine s_getR (pc := 117) (k := 22) c1 ft_X7_63 rfl (by decide +kernel) ?_
      refine s_iload (pc := 120) (i := 4) 3 rfl (by decide +kernel) ?_
      refine S_gd (fun c9 => ?_)
      refine S_gd (fun c10 => ?_)
      refine s_lald (pc := 122) c9 c10 (by decide +kernel) ?_
      refine s_lsub (pc := 123) (by decide +kernel) ?_
      refine s_nmJ (fun v11 => ?_)
      refine s_lstore (pc := 124) (L' := [(5, .long v11), (0, .ref a0), (2, .int a2), (3, .int a3), (4, .int a4)]) (i := 5) (by decide) rfl (by decide +kernel) ?_
      refine s_aload_n (pc := 126) (k0 := 0) (i := 0) rfl 1 rfl (by decide +kernel) ?_
      refine s_getR (pc := 127) (k := 23) c1 ft_X7_66 rfl (by decide +kernel) ?_
      refine s_iload (pc := 130) (i := 4) 4 rfl (by decide +kernel) ?_
      refine s_lald (pc := 132) c5 c6 (by decide +kernel) ?_
      refine s_nmJ (fun v12 => ?_)
      refine s_lstore (pc := 133) (L' := [(7, .long v12), (5, .long v11), (0, .ref a0), (2, .int a2), (3, .int a3), (4, .int a4)]) (i := 7) (by decide) rfl (by decide +kernel) ?_
      refine s_lload (pc := 135) (i := 7) 0 rfl (by decide +kernel) ?_
      refine s_lconst (pc := 137) (n := 0) (v := (0 : Int64)) (by decide) (by decide +kernel) ?_
      refine s_lcmp (pc := 138) (by decide +kernel) ?_
      refine s_if_ge (pc := 139) (off := 9) 148 (by decide +kernel) (by decide) (fun _ => ?_) (fun _ => ?_)
      · refine s_lload (pc := 148) (i := 5) 1 rfl (by decide +kernel) ?_
        refine S_sub [2, 3, 4, 5, 0] rfl ?_
        exact pX7_where_b150 hr85 v11 a0 a2 a3 a4 v12 h
      · refine s_lload (pc := 142) (i := 5) 1 rfl (by decide +kernel) ?_
        refine s_lneg (pc := 144) (by decide +kernel) ?_
        refine s_goto (pc := 145) (off := 5) 150 (by decide +kernel) (by decide) ?_
        refine S_sub [2, 3, 4, 5, 0] rfl ?_
        exact pX7_where_b150 hr85 (-v11) a0 a2 a3 a4 v12 h
theorem pX7_where_l85 {h0 : xH}   : ∀ (k : Nat)  (a0 : Nat) (a2 : Int32) (a3 : Int32) (a4 : Int32) (h : xH), S emJ kX7_where h0 85 [(0, .ref a0), (2, .int a2), (3, .int a3), (4, .int a4)] [] h (fX7_where_l85  k  a0 a2 a3 a4 h) := by
  intro k
  induction k with
  | zero => intros; exact S_none
  | succ k ih => intro  a0 a2 a3 a4 h; exact pX7_where_b85 ih  a0 a2 a3 a4 h
theorem pX7_where_b52 {h0 : xH} {r52 : Nat → Int32 → Int32 → Int32 → Int32 → xH → Option (Int64 × xH)} (hr52 : ∀  (a0 : Nat) (a1 : Int32) (a2 : Int32) (a3 : Int32) (a4 : Int32) (g : xH), S emJ kX7_where h0 52 [(0, .ref a0), (1, .int a1), (2, .int a2), (3, .int a3), (4, .int a4)] [] g (r52  a0 a1 a2 a3 a4 g))  (a0 : Nat) (a1 : Int32) (a2 : Int32) (a3 : Int32) (a4 : Int32) (h : xH) : S emJ kX7_where h0 52 [(0, .ref a0), (1, .int a1), (2, .int a2), (3, .int a3), (4, .int a4)] [] h (fX7_where_b52 r52 a0 a1 a2 a3 a4 h) := by
  unfold fX7_where_b52
  refine s_iload (pc := 52) (i := 4) 4 rfl (by decide +kernel) ?_
  refine s_aload_n (pc := 54) (k0 := 0) (i := 0) rfl 0 rfl (by decide +kernel) ?_
  refine s_iload_n (pc := 55) (k0 := 1) (i := 1) rfl 1 rfl (by decide +kernel) ?_
  refine S_gd (fun c1 => ?_)
  refine s_cVi (pc := 56) [.int a1] (tX7_many a0 a1 h) c1 cw_X7_168 rfl ⟨⟨Nat.le_of_ble_eq_true rfl, Nat.le_of_ble_eq_true rfl⟩, Nat.le_of_ble_eq_true rfl⟩ rfl (by decide +kernel) (fun w4 g2 e3 => ?_)
  refine s_icmp_ge (pc := 59) (off := 23) 82 (by decide +kernel) (by decide) (fun _ => ?_) (fun _ => ?_)
  · refine s_iconst (pc := 82) (n := 0) (v := (0 : Int32)) (by decide) (by decide +kernel) ?_
    refine s_nmI (fun v5 => ?_)
    refine s_istore (pc := 83) (L' := [(4, .int v5), (0, .ref a0), (1, .int a1), (2, .int a2), (3, .int a3)]) (i := 4) (by decide) rfl (by decide +kernel) ?_
    refine S_sub [1, 3, 4, 0] rfl ?_
    exact pX7_where_l85 FU a0 a2 a3 v5 g2
  · refine s_aload_n (pc := 62) (k0 := 0) (i := 0) rfl 0 rfl (by decide +kernel) ?_
    refine s_aload_n (pc := 63) (k0 := 0) (i := 0) rfl 0 rfl (by decide +kernel) ?_
    refine s_iload_n (pc := 64) (k0 := 1) (i := 1) rfl 1 rfl (by decide +kernel) ?_
    refine s_iload (pc := 65) (i := 4) 4 rfl (by decide +kernel) ?_
    have c6 := kp e3 c1 (by decide)
    refine s_cVi (pc := 67) [.int a1, .int a4] (tX7_xOf a0 a1 a4 g2) c6 cw_X7_174 rfl ⟨⟨Nat.le_of_ble_eq_true rfl, Nat.le_of_ble_eq_true rfl⟩, Nat.le_of_ble_eq_true rfl⟩ rfl (by decide +kernel) (fun w9 g7 e8 => ?_)
    refine s_i2l (pc := 70) (by decide +kernel) ?_
    refine s_lconst (pc := 71) (n := 1) (v := (1 : Int64)) (by decide) (by decide +kernel) ?_
    refine s_iload_n (pc := 72) (k0 := 2) (i := 2) rfl 2 rfl (by decide +kernel) ?_
    have c10 := kp e8 c6 (by decide)
    refine s_cVv (pc := 73) [.long w9.toInt64, .long (1 : Int64), .int a2] (tX7_meets a0 w9.toInt64 (1 : Int64) a2 g7) c10 cw_X7_387 rfl ⟨⟨Nat.le_of_ble_eq_true rfl, Nat.le_of_ble_eq_true rfl⟩, Nat.le_of_ble_eq_true rfl⟩ rfl (by decide +kernel) (fun _ g11 e12 => ?_)
    refine s_iinc (pc := 76) (L' := [(4, .int (a4 + (1 : Int32))), (0, .ref a0), (1, .int a1), (2, .int a2), (3, .int a3)]) (i := 4) (n := 1) 4 rfl rfl (by decide) rfl (by decide +kernel) ?_
    refine s_nmI0 (e := a4 + (1 : Int32)) (L := fun v13 => [(4, .int v13), (0, .ref a0), (1, .int a1), (2, .int a2), (3, .int a3)]) (fun v13 => ?_)
    refine s_goto (pc := 79) (off := -27) 52 (by decide +kernel) (by decide) ?_
    refine S_sub [1, 2, 3, 4, 0] rfl ?_
    exact hr52 a0 a1 a2 a3 v13 g11
theorem pX7_where_l52 {h0 : xH}   : ∀ (k : Nat)  (a0 : Nat) (a1 : Int32) (a2 : Int32) (a3 : Int32) (a4 : Int32) (h : xH), S emJ kX7_where h0 52 [(0, .ref a0), (1, .int a1), (2, .int a2), (3, .int a3), (4, .int a4)] [] h (fX7_where_l52  k  a0 a1 a2 a3 a4 h) := by
  intro k
  induction k with
  | zero => intros; exact S_none
  | succ k ih => intro  a0 a1 a2 a3 a4 h; exact pX7_where_b52 ih  a0 a1 a2 a3 a4 h
theorem pX7_where_e    (a0 : Nat) (a1 : Int32) (a2 : Int32) (a3 : Int32) (h : xH) : S emJ kX7_where h 0 [(0, .ref a0), (1, .int a1), (2, .int a2), (3, .int a3)] [] h (fX7_where  a0 a1 a2 a3 h) := by
  unfold fX7_where
  refine s_aload_n (pc := 0) (k0 := 0) (i := 0) rfl 0 rfl (by decide +kernel) ?_
  refine s_iconst (pc := 1) (n := 0) (v := (0 : Int32)) (by decide) (by decide +kernel) ?_
  refine S_gd (fun c1 => ?_)
  refine s_putI (pc := 2) (k := 0) c1 ft_X7_107 (fw_7_0 _ _) rfl rfl (by decide +kernel) ?_
  refine s_nmH (o := h) rfl (fun g2 e3 => ?_)
  refine s_iload_n (pc := 5) (k0 := 1) (i := 1) rfl 1 rfl (by decide +kernel) ?_
  refine s_cSi (pc := 6) [.int a1] (tX7_isStore a1 g2) cw_X7_247 rfl ⟨⟨Nat.le_of_ble_eq_true rfl, Nat.le_of_ble_eq_true rfl⟩, Nat.le_of_ble_eq_true rfl⟩ rfl (by decide +kernel) (fun w6 g4 e5 => ?_)
  refine s_if_eq (pc := 9) (off := 21) 30 (by decide +kernel) (by decide) (fun _ => ?_) (fun _ => ?_)
  · refine s_ldc2 (pc := 30) (v := (-9223372036854775808 : Int64)) (index := 334) (gd_of 1298 (by decide +kernel) rfl) (by decide +kernel) ?_
    exact s_lret (pc := 33) rfl (by decide +kernel)
  · refine s_iload_n (pc := 12) (k0 := 2) (i := 2) rfl 2 rfl (by decide +kernel) ?_
    refine s_i2l (pc := 13) (by decide +kernel) ?_
    refine s_cSi (pc := 14) [.long a2.toInt64] (tX7_isPlace a2.toInt64 g4) cw_X7_270 rfl ⟨⟨Nat.le_of_ble_eq_true rfl, Nat.le_of_ble_eq_true rfl⟩, Nat.le_of_ble_eq_true rfl⟩ rfl (by decide +kernel) (fun w9 g7 e8 => ?_)
    refine s_if_eq (pc := 17) (off := 13) 30 (by decide +kernel) (by decide) (fun _ => ?_) (fun _ => ?_)
    · refine s_ldc2 (pc := 30) (v := (-9223372036854775808 : Int64)) (index := 334) (gd_of 1298 (by decide +kernel) rfl) (by decide +kernel) ?_
      exact s_lret (pc := 33) rfl (by decide +kernel)
    · refine s_iload_n (pc := 20) (k0 := 3) (i := 3) rfl 3 rfl (by decide +kernel) ?_
      refine s_i2l (pc := 21) (by decide +kernel) ?_
      refine s_lconst (pc := 22) (n := 0) (v := (0 : Int64)) (by decide) (by decide +kernel) ?_
      refine s_lconst (pc := 23) (n := 1) (v := (1 : Int64)) (by decide) (by decide +kernel) ?_
      refine s_cSi (pc := 24) [.long a3.toInt64, .long (0 : Int64), .long (1 : Int64)] (tX7_in a3.toInt64 (0 : Int64) (1 : Int64) g7) cw_X7_114 rfl ⟨⟨Nat.le_of_ble_eq_true rfl, Nat.le_of_ble_eq_true rfl⟩, Nat.le_of_ble_eq_true rfl⟩ rfl (by decide +kernel) (fun w12 g10 e11 => ?_)
      refine s_if_ne (pc := 27) (off := 7) 34 (by decide +kernel) (by decide) (fun _ => ?_) (fun _ => ?_)
      · refine s_ldc2 (pc := 30) (v := (-9223372036854775808 : Int64)) (index := 334) (gd_of 1298 (by decide +kernel) rfl) (by decide +kernel) ?_
        exact s_lret (pc := 33) rfl (by decide +kernel)
      · refine s_aload_n (pc := 34) (k0 := 0) (i := 0) rfl 0 rfl (by decide +kernel) ?_
        refine s_iconst (pc := 35) (n := 0) (v := (0 : Int32)) (by decide) (by decide +kernel) ?_
        have c13 := kp (Le.tr e3 (Le.tr e5 (Le.tr e8 e11))) c1 (by decide)
        refine s_putI (pc := 36) (k := 19) c13 ft_X7_158 (fw_7_19 _ _) rfl rfl (by decide +kernel) ?_
        refine s_nmH (o := g10) rfl (fun g14 e15 => ?_)
        refine s_aload_n (pc := 39) (k0 := 0) (i := 0) rfl 0 rfl (by decide +kernel) ?_
        refine s_iload_n (pc := 40) (k0 := 1) (i := 1) rfl 1 rfl (by decide +kernel) ?_
        have c16 := kp e15 c13 (by decide)
        refine s_cVv (pc := 41) [.int a1] (tX7_linesOf a0 a1 g14) c16 cw_X7_251 rfl ⟨⟨Nat.le_of_ble_eq_true rfl, Nat.le_of_ble_eq_true rfl⟩, Nat.le_of_ble_eq_true rfl⟩ rfl (by decide +kernel) (fun _ g17 e18 => ?_)
        refine s_aload_n (pc := 44) (k0 := 0) (i := 0) rfl 0 rfl (by decide +kernel) ?_
        refine s_iconst (pc := 45) (n := 1) (v := (1 : Int32)) (by decide) (by decide +kernel) ?_
        have c19 := kp e18 c16 (by decide)
        refine s_putZ (pc := 46) (k := 49) (by decide) c19 ft_X7_378 (fw_7_49 _ _) rfl rfl (by decide +kernel) ?_
        refine s_nmH (o := g17) rfl (fun g20 e21 => ?_)
        refine s_iconst (pc := 49) (n := 0) (v := (0 : Int32)) (by decide) (by decide +kernel) ?_
        refine s_nmI (fun v22 => ?_)
        refine s_istore (pc := 50) (L' := [(4, .int v22), (0, .ref a0), (1, .int a1), (2, .int a2), (3, .int a3)]) (i := 4) (by decide) rfl (by decide +kernel) ?_
        refine S_sub [1, 2, 3, 4, 0] rfl ?_
        exact pX7_where_l52 FU a0 a1 a2 a3 v22 g20
theorem tX7_where (a0 : Nat) (a1 : Int32) (a2 : Int32) (a3 : Int32) (h : xH) : Ct yX7_where kX7_where emJ [.ref a0, .int a1, .int a2, .int a3] h (fX7_where a0 a1 a2 a3 h) := Ct_of (by decide +kernel) rfl rfl rfl (Nat.le_of_ble_eq_true rfl) rfl (pX7_where_e a0 a1 a2 a3 h)
