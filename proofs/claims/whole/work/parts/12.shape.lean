def fX6_isPlace   (a0 : Int64) (h : xH) : Option (Int32 × xH) :=
  if (lg_cmp a0 (-5940 : Int64)) < 0 then (
  some ((0 : Int32), h))
  else (
  if 0 < (lg_cmp a0 (5940 : Int64)) then (
  some ((0 : Int32), h))
  else (
  some ((1 : Int32), h)))
theorem pX6_isPlace_e    (a0 : Int64) (h : xH) : S emI kX6_isPlace h 0 [(0, .long a0)] [] h (fX6_isPlace  a0 h) := by
  unfold fX6_isPlace
  refine s_lload_n (pc := 0) (k0 := 0) (i := 0) rfl 0 rfl (by decide +kernel) ?_
  refine s_ldc2 (pc := 1) (v := (-5940 : Int64)) (index := 348) (gd_of 465 (by decide +kernel) rfl) (by decide +kernel) ?_
  refine s_lcmp (pc := 4) (by decide +kernel) ?_
  refine s_if_lt (pc := 5) (off := 15) 20 (by decide +kernel) (by decide) (fun _ => ?_) (fun _ => ?_)
  · refine s_iconst (pc := 20) (n := 0) (v := (0 : Int32)) (by decide) (by decide +kernel) ?_
    exact s_zret (pc := 21) (by decide) rfl (by decide +kernel)
  · refine s_lload_n (pc := 8) (k0 := 0) (i := 0) rfl 0 rfl (by decide +kernel) ?_
    refine s_ldc2 (pc := 9) (v := (5940 : Int64)) (index := 350) (gd_of 466 (by decide +kernel) rfl) (by decide +kernel) ?_
    refine s_lcmp (pc := 12) (by decide +kernel) ?_
    refine s_if_gt (pc := 13) (off := 7) 20 (by decide +kernel) (by decide) (fun _ => ?_) (fun _ => ?_)
    · refine s_iconst (pc := 20) (n := 0) (v := (0 : Int32)) (by decide) (by decide +kernel) ?_
      exact s_zret (pc := 21) (by decide) rfl (by decide +kernel)
    · refine s_iconst (pc := 16) (n := 1) (v := (1 : Int32)) (by decide) (by decide +kernel) ?_
      refine s_goto (pc := 17) (off := 4) 21 (by decide +kernel) (by decide) ?_
      exact s_zret (pc := 21) (by decide) rfl (by decide +kernel)
theorem tX6_isPlace (a0 : Int64) (h : xH) : Ct yX6_isPlace kX6_isPlace emI [.long a0] h (fX6_isPlace a0 h) := Ct_of (by decide +kernel) rfl rfl rfl (Nat.le_of_ble_eq_true rfl) rfl (pX6_isPlace_e a0 h)
def fX4_init   (a0 : Nat) (h : xH) : Option (Unit × xH) :=
  if kc h a0 = 4 then
  lt (sI h a0 0 (0 : Int32)) (fun g2 =>
  lt (hnx g2) (fun q5 => lt (hnew g2 9 (12 : Int32).toNatClampNeg) (fun g4 =>
  lt (sR g4 a0 1 q5) (fun g9 =>
  lt (hnx g9) (fun q12 => lt (hnew g9 9 (12 : Int32).toNatClampNeg) (fun g11 =>
  lt (sR g11 a0 2 q12) (fun g16 =>
  lt (hnx g16) (fun q19 => lt (hnew g16 9 (12 : Int32).toNatClampNeg) (fun g18 =>
  lt (sR g18 a0 3 q19) (fun g23 =>
  lt (hnx g23) (fun q26 => lt (hnew g23 9 (12 : Int32).toNatClampNeg) (fun g25 =>
  lt (sR g25 a0 4 q26) (fun g30 =>
  lt (hnx g30) (fun q33 => lt (hnew g30 8 (12 : Int32).toNatClampNeg) (fun g32 =>
  lt (sR g32 a0 5 q33) (fun g37 =>
  some ((), g37)))))))))))))))))
  else none
theorem pX4_init_e    (a0 : Nat) (h : xH) : S emV kX4_init h 0 [(0, .ref a0)] [] h (fX4_init  a0 h) := by
  unfold fX4_init
  refine s_aload_n (pc := 0) (k0 := 0) (i := 0) rfl 0 rfl (by decide +kernel) ?_
  refine S_gd (fun c1 => ?_)
  refine s_objInit (pc := 1) (index := 3) (k2r c1 (by decide)) ml_X4_3 oi_1 oi_2 (by decide) (by decide +kernel) ?_
  refine s_aload_n (pc := 4) (k0 := 0) (i := 0) rfl 0 rfl (by decide +kernel) ?_
  refine s_iconst (pc := 5) (n := 0) (v := (0 : Int32)) (by decide) (by decide +kernel) ?_
  refine s_putI (pc := 6) (k := 0) c1 ft_X4_9 (fw_4_0 _ _) rfl rfl (by decide +kernel) ?_
  refine s_nmH (o := h) rfl (fun g2 e3 => ?_)
  refine s_aload_n (pc := 9) (k0 := 0) (i := 0) rfl 0 rfl (by decide +kernel) ?_
  refine s_bipush (pc := 10) (n := 12) (v := (12 : Int32)) (by decide) (by decide +kernel) ?_
  refine s_newJ (pc := 12) (by decide) (by decide +kernel) ?_
  refine s_nmN (fun q5 g4 c7 e6 => ?_)
  have c8 := kp (Le.tr e3 e6) c1 (by decide)
  refine s_putR (pc := 14) (k := 1) c8 ft_X4_15 (fw_4_1 _ _) rfl rfl (by decide +kernel) ?_
  refine s_nmH (o := g4) rfl (fun g9 e10 => ?_)
  refine s_aload_n (pc := 17) (k0 := 0) (i := 0) rfl 0 rfl (by decide +kernel) ?_
  refine s_bipush (pc := 18) (n := 12) (v := (12 : Int32)) (by decide) (by decide +kernel) ?_
  refine s_newJ (pc := 20) (by decide) (by decide +kernel) ?_
  refine s_nmN (fun q12 g11 c14 e13 => ?_)
  have c15 := kp (Le.tr e10 e13) c8 (by decide)
  refine s_putR (pc := 22) (k := 2) c15 ft_X4_19 (fw_4_2 _ _) rfl rfl (by decide +kernel) ?_
  refine s_nmH (o := g11) rfl (fun g16 e17 => ?_)
  refine s_aload_n (pc := 25) (k0 := 0) (i := 0) rfl 0 rfl (by decide +kernel) ?_
  refine s_bipush (pc := 26) (n := 12) (v := (12 : Int32)) (by decide) (by decide +kernel) ?_
  refine s_newJ (pc := 28) (by decide) (by decide +kernel) ?_
  refine s_nmN (fun q19 g18 c21 e20 => ?_)
  have c22 := kp (Le.tr e17 e20) c15 (by decide)
  refine s_putR (pc := 30) (k := 3) c22 ft_X4_22 (fw_4_3 _ _) rfl rfl (by decide +kernel) ?_
  refine s_nmH (o := g18) rfl (fun g23 e24 => ?_)
  refine s_aload_n (pc := 33) (k0 := 0) (i := 0) rfl 0 rfl (by decide +kernel) ?_
  refine s_bipush (pc := 34) (n := 12) (v := (12 : Int32)) (by decide) (by decide +kernel) ?_
  refine s_newJ (pc := 36) (by decide) (by decide +kernel) ?_
  refine s_nmN (fun q26 g25 c28 e27 => ?_)
  have c29 := kp (Le.tr e24 e27) c22 (by decide)
  refine s_putR (pc := 38) (k := 4) c29 ft_X4_25 (fw_4_4 _ _) rfl rfl (by decide +kernel) ?_
  refine s_nmH (o := g25) rfl (fun g30 e31 => ?_)
  refine s_aload_n (pc := 41) (k0 := 0) (i := 0) rfl 0 rfl (by decide +kernel) ?_
  refine s_bipush (pc := 42) (n := 12) (v := (12 : Int32)) (by decide) (by decide +kernel) ?_
  refine s_newI (pc := 44) (by decide) (by decide +kernel) ?_
  refine s_nmN (fun q33 g32 c35 e34 => ?_)
  have c36 := kp (Le.tr e31 e34) c29 (by decide)
  refine s_putR (pc := 46) (k := 5) c36 ft_X4_28 (fw_4_5 _ _) rfl rfl (by decide +kernel) ?_
  refine s_nmH (o := g32) rfl (fun g37 e38 => ?_)
  exact s_vret (pc := 49) rfl (by decide +kernel)
theorem tX4_init (a0 : Nat) (h : xH) : Ct yX4_init kX4_init emV [.ref a0] h (fX4_init a0 h) := Ct_of (by decide +kernel) rfl rfl rfl (Nat.le_of_ble_eq_true rfl) rfl (pX4_init_e a0 h)
def fX4_wipe   (a0 : Nat) (h : xH) : Option (Unit × xH) :=
  if kc h a0 = 4 then
  lt (sI h a0 0 (0 : Int32)) (fun g2 =>
  some ((), g2))
  else none
theorem pX4_wipe_e    (a0 : Nat) (h : xH) : S emV kX4_wipe h 0 [(0, .ref a0)] [] h (fX4_wipe  a0 h) := by
  unfold fX4_wipe
  refine s_aload_n (pc := 0) (k0 := 0) (i := 0) rfl 0 rfl (by decide +kernel) ?_
  refine s_iconst (pc := 1) (n := 0) (v := (0 : Int32)) (by decide) (by decide +kernel) ?_
  refine S_gd (fun c1 => ?_)
  refine s_putI (pc := 2) (k := 0) c1 ft_X4_9 (fw_4_0 _ _) rfl rfl (by decide +kernel) ?_
  refine s_nmH (o := h) rfl (fun g2 e3 => ?_)
  exact s_vret (pc := 5) rfl (by decide +kernel)
theorem tX4_wipe (a0 : Nat) (h : xH) : Ct yX4_wipe kX4_wipe emV [.ref a0] h (fX4_wipe a0 h) := Ct_of (by decide +kernel) rfl rfl rfl (Nat.le_of_ble_eq_true rfl) rfl (pX4_wipe_e a0 h)
def fX4_makeRoom   (a0 : Nat) (a1 : Int32) (h : xH) : Option (Unit × xH) :=
  if kc h a0 = 4 then
  if kc h (hR h a0 1) = 9 then
  if (Int32.ofNat (kl h (hR h a0 1))) < a1 then (
  bd (fJ9_max_7cf53 a1 ((2 : Int32) * (Int32.ofNat (kl h (hR h a0 1)))) h) (fun w5 g3 =>
  bd (fJ7_copyOf_c38d5 (hR g3 a0 1) w5 g3) (fun w9 g7 =>
  lt (sR g7 a0 1 w9) (fun g11 =>
  bd (fJ7_copyOf_c38d5 (hR g11 a0 2) w5 g11) (fun w16 g14 =>
  lt (sR g14 a0 2 w16) (fun g18 =>
  bd (fJ7_copyOf_c38d5 (hR g18 a0 3) w5 g18) (fun w23 g21 =>
  lt (sR g21 a0 3 w23) (fun g25 =>
  bd (fJ7_copyOf_c38d5 (hR g25 a0 4) w5 g25) (fun w30 g28 =>
  lt (sR g28 a0 4 w30) (fun g32 =>
  bd (fJ7_copyOf_59c91 (hR g32 a0 5) w5 g32) (fun w37 g35 =>
  lt (sR g35 a0 5 w37) (fun g39 =>
  some ((), g39)))))))))))))
  else (
  some ((), h))
  else none
  else none
theorem pX4_makeRoom_e    (a0 : Nat) (a1 : Int32) (h : xH) : S emV kX4_makeRoom h 0 [(0, .ref a0), (1, .int a1)] [] h (fX4_makeRoom  a0 a1 h) := by
  unfold fX4_makeRoom
  refine s_iload_n (pc := 0) (k0 := 1) (i := 1) rfl 1 rfl (by decide +kernel) ?_
  refine s_aload_n (pc := 1) (k0 := 0) (i := 0) rfl 0 rfl (by decide +kernel) ?_
  refine S_gd (fun c1 => ?_)
  refine s_getR (pc := 2) (k := 1) c1 ft_X4_15 rfl (by decide +kernel) ?_
  refine S_gd (fun c2 => ?_)
  refine s_alen (pc := 5) (by rw [c2]; decide) (by decide +kernel) ?_
  refine s_icmp_gt (pc := 6) (off := 4) 10 (by decide +kernel) (by decide) (fun _ => ?_) (fun _ => ?_)
  · refine s_iload_n (pc := 10) (k0 := 1) (i := 1) rfl 1 rfl (by decide +kernel) ?_
    refine s_iconst (pc := 11) (n := 2) (v := (2 : Int32)) (by decide) (by decide +kernel) ?_
    refine s_aload_n (pc := 12) (k0 := 0) (i := 0) rfl 0 rfl (by decide +kernel) ?_
    refine s_getR (pc := 13) (k := 1) c1 ft_X4_15 rfl (by decide +kernel) ?_
    refine s_alen (pc := 16) (by rw [c2]; decide) (by decide +kernel) ?_
    refine s_imul (pc := 17) (by decide +kernel) ?_
    refine s_cSi (pc := 18) [.int a1, .int ((2 : Int32) * (Int32.ofNat (kl h (hR h a0 1))))] (tJ9_max_7cf53 a1 ((2 : Int32) * (Int32.ofNat (kl h (hR h a0 1)))) h) cw_X4_42 rfl ⟨⟨Nat.le_of_ble_eq_true rfl, Nat.le_of_ble_eq_true rfl⟩, Nat.le_of_ble_eq_true rfl⟩ rfl (by decide +kernel) (fun w5 g3 e4 => ?_)
    refine s_istore_n (pc := 21) (L' := [(2, .int w5), (0, .ref a0), (1, .int a1)]) (k0 := 2) (i := 2) rfl (by decide) rfl (by decide +kernel) ?_
    refine s_aload_n (pc := 22) (k0 := 0) (i := 0) rfl 1 rfl (by decide +kernel) ?_
    refine s_aload_n (pc := 23) (k0 := 0) (i := 0) rfl 1 rfl (by decide +kernel) ?_
    have c6 := kp e4 c1 (by decide)
    refine s_getR (pc := 24) (k := 1) c6 ft_X4_15 rfl (by decide +kernel) ?_
    refine s_iload_n (pc := 27) (k0 := 2) (i := 2) rfl 0 rfl (by decide +kernel) ?_
    refine s_cSr (pc := 28) [.ref (hR g3 a0 1), .int w5] (tJ7_copyOf_c38d5 (hR g3 a0 1) w5 g3) cw_X4_48 rfl ⟨⟨Nat.le_of_ble_eq_true rfl, Nat.le_of_ble_eq_true rfl⟩, Nat.le_of_ble_eq_true rfl⟩ rfl (by decide +kernel) (fun w9 g7 e8 => ?_)
    have c10 := kp e8 c6 (by decide)
    refine s_putR (pc := 31) (k := 1) c10 ft_X4_15 (fw_4_1 _ _) rfl rfl (by decide +kernel) ?_
    refine s_nmH (o := g7) rfl (fun g11 e12 => ?_)
    refine s_aload_n (pc := 34) (k0 := 0) (i := 0) rfl 1 rfl (by decide +kernel) ?_
    refine s_aload_n (pc := 35) (k0 := 0) (i := 0) rfl 1 rfl (by decide +kernel) ?_
    have c13 := kp e12 c10 (by decide)
    refine s_getR (pc := 36) (k := 2) c13 ft_X4_19 rfl (by decide +kernel) ?_
    refine s_iload_n (pc := 39) (k0 := 2) (i := 2) rfl 0 rfl (by decide +kernel) ?_
    refine s_cSr (pc := 40) [.ref (hR g11 a0 2), .int w5] (tJ7_copyOf_c38d5 (hR g11 a0 2) w5 g11) cw_X4_48 rfl ⟨⟨Nat.le_of_ble_eq_true rfl, Nat.le_of_ble_eq_true rfl⟩, Nat.le_of_ble_eq_true rfl⟩ rfl (by decide +kernel) (fun w16 g14 e15 => ?_)
    have c17 := kp e15 c13 (by decide)
    refine s_putR (pc := 43) (k := 2) c17 ft_X4_19 (fw_4_2 _ _) rfl rfl (by decide +kernel) ?_
    refine s_nmH (o := g14) rfl (fun g18 e19 => ?_)
    refine s_aload_n (pc := 46) (k0 := 0) (i := 0) rfl 1 rfl (by decide +kernel) ?_
    refine s_aload_n (pc := 47) (k0 := 0) (i := 0) rfl 1 rfl (by decide +kernel) ?_
    have c20 := kp e19 c17 (by decide)
    refine s_getR (pc := 48) (k := 3) c20 ft_X4_22 rfl (by decide +kernel) ?_
    refine s_iload_n (pc := 51) (k0 := 2) (i := 2) rfl 0 rfl (by decide +kernel) ?_
    refine s_cSr (pc := 52) [.ref (hR g18 a0 3), .int w5] (tJ7_copyOf_c38d5 (hR g18 a0 3) w5 g18) cw_X4_48 rfl ⟨⟨Nat.le_of_ble_eq_true rfl, Nat.le_of_ble_eq_true rfl⟩, Nat.le_of_ble_eq_true rfl⟩ rfl (by decide +kernel) (fun w23 g21 e22 => ?_)
    have c24 := kp e22 c20 (by decide)
    refine s_putR (pc := 55) (k := 3) c24 ft_X4_22 (fw_4_3 _ _) rfl rfl (by decide +kernel) ?_
    refine s_nmH (o := g21) rfl (fun g25 e26 => ?_)
    refine s_aload_n (pc := 58) (k0 := 0) (i := 0) rfl 1 rfl (by decide +kernel) ?_
    refine s_aload_n (pc := 59) (k0 := 0) (i := 0) rfl 1 rfl (by decide +kernel) ?_
    have c27 := kp e26 c24 (by decide)
    refine s_getR (pc := 60) (k := 4) c27 ft_X4_25 rfl (by decide +kernel) ?_
    refine s_iload_n (pc := 63) (k0 := 2) (i := 2) rfl 0 rfl (by decide +kernel) ?_
    refine s_cSr (pc := 64) [.ref (hR g25 a0 4), .int w5] (tJ7_copyOf_c38d5 (hR g25 a0 4) w5 g25) cw_X4_48 rfl ⟨⟨Nat.le_of_ble_eq_true rfl, Nat.le_of_ble_eq_true rfl⟩, Nat.le_of_ble_eq_true rfl⟩ rfl (by decide +kernel) (fun w30 g28 e29 => ?_)
    have c31 := kp e29 c27 (by decide)
    refine s_putR (pc := 67) (k := 4) c31 ft_X4_25 (fw_4_4 _ _) rfl rfl (by decide +kernel) ?_
    refine s_nmH (o := g28) rfl (fun g32 e33 => ?_)
    refine s_aload_n (pc := 70) (k0 := 0) (i := 0) rfl 1 rfl (by decide +kernel) ?_
    refine s_aload_n (pc := 71) (k0 := 0) (i := 0) rfl 1 rfl (by decide +kernel) ?_
    have c34 := kp e33 c31 (by decide)
    refine s_getR (pc := 72) (k := 5) c34 ft_X4_28 rfl (by decide +kernel) ?_
    refine s_iload_n (pc := 75) (k0 := 2) (i := 2) rfl 0 rfl (by decide +kernel) ?_
    refine s_cSr (pc := 76) [.ref (hR g32 a0 5), .int w5] (tJ7_copyOf_59c91 (hR g32 a0 5) w5 g32) cw_X4_54 rfl ⟨⟨Nat.le_of_ble_eq_true rfl, Nat.le_of_ble_eq_true rfl⟩, Nat.le_of_ble_eq_true rfl⟩ rfl (by decide +kernel) (fun w37 g35 e36 => ?_)
    have c38 := kp e36 c34 (by decide)
    refine s_putR (pc := 79) (k := 5) c38 ft_X4_28 (fw_4_5 _ _) rfl rfl (by decide +kernel) ?_
    refine s_nmH (o := g35) rfl (fun g39 e40 => ?_)
    exact s_vret (pc := 82) rfl (by decide +kernel)
  · exact s_vret (pc := 9) rfl (by decide +kernel)
theorem tX4_makeRoom (a0 : Nat) (a1 : Int32) (h : xH) : Ct yX4_makeRoom kX4_makeRoom emV [.ref a0, .int a1] h (fX4_makeRoom a0 a1 h) := Ct_of (by decide +kernel) rfl rfl rfl (Nat.le_of_ble_eq_true rfl) rfl (pX4_makeRoom_e a0 a1 h)
def fX4_addKnot_b113  (s0 : Int32) (s1 : Int32) (s2 : Nat) (a0 : Nat) (h : xH) : Option (Unit × xH) :=
  if kc h s2 = 8 then
  if ix s1 (kl h s2) then
  lt (sI h s2 s1.toNatClampNeg s0) (fun g3 =>
  if kc g3 a0 = 4 then
  lt (sI g3 a0 0 ((hI g3 a0 0) + (1 : Int32))) (fun g6 =>
  some ((), g6))
  else none)
  else none
  else none
def fX4_addKnot   (a0 : Nat) (a1 : Int64) (a3 : Int64) (a5 : Int64) (a7 : Int64) (a9 : Int32) (h : xH) : Option (Unit × xH) :=
  bd (fX2_commonDivisor a1 a3 h) (fun w3 g1 =>
  bd (fX2_commonDivisor a5 a7 g1) (fun w6 g4 =>
  if (lg_cmp w3 (0 : Int64)) = 0 then (
  some ((), g4))
  else (
  if (lg_cmp w6 (0 : Int64)) = 0 then (
  some ((), g4))
  else (
  if kc g4 a0 = 4 then
  bd (fX4_makeRoom a0 ((hI g4 a0 0) + (1 : Int32)) g4) (fun _ g8 =>
  if ¬ w3 = 0 then
  if kc g8 (hR g8 a0 1) = 9 then
  if ix (hI g8 a0 0) (kl g8 (hR g8 a0 1)) then
  lt (sJ g8 (hR g8 a0 1) (hI g8 a0 0).toNatClampNeg (a1 / w3)) (fun g13 =>
  if ¬ w3 = 0 then
  if kc g13 (hR g13 a0 2) = 9 then
  if ix (hI g13 a0 0) (kl g13 (hR g13 a0 2)) then
  lt (sJ g13 (hR g13 a0 2) (hI g13 a0 0).toNatClampNeg (a3 / w3)) (fun g18 =>
  if ¬ w6 = 0 then
  if kc g18 (hR g18 a0 3) = 9 then
  if ix (hI g18 a0 0) (kl g18 (hR g18 a0 3)) then
  lt (sJ g18 (hR g18 a0 3) (hI g18 a0 0).toNatClampNeg (a5 / w6)) (fun g23 =>
  if ¬ w6 = 0 then
  if kc g23 (hR g23 a0 4) = 9 then
  if ix (hI g23 a0 0) (kl g23 (hR g23 a0 4)) then
  lt (sJ g23 (hR g23 a0 4) (hI g23 a0 0).toNatClampNeg (a7 / w6)) (fun g28 =>
  if a9 = 0 then (
  fX4_addKnot_b113 (0 : Int32) (hI g28 a0 0) (hR g28 a0 5) a0 g28)
  else (
  fX4_addKnot_b113 (1 : Int32) (hI g28 a0 0) (hR g28 a0 5) a0 g28))
  else none
  else none
  else none)
  else none
  else none
  else none)
  else none
  else none
  else none)
  else none
  else none
  else none)
  else none))))
theorem pX4_addKnot_b113 {h0 : xH}   (s0 : Int32) (s1 : Int32) (s2 : Nat) (a0 : Nat) (h : xH) : S emV kX4_addKnot h0 113 [(0, .ref a0)] [.int s0, .int s1, .ref s2] h (fX4_addKnot_b113 s0 s1 s2 a0 h) := by
  unfold fX4_addKnot_b113
  refine S_gd (fun c1 => ?_)
  refine S_gd (fun c2 => ?_)
  refine s_iast (pc := 113) c1 c2 (by decide +kernel) ?_
  refine s_nmH (o := h) rfl (fun g3 e4 => ?_)
  refine s_aload_n (pc := 114) (k0 := 0) (i := 0) rfl 0 rfl (by decide +kernel) ?_
  refine s_dup_a (pc := 115) (by decide +kernel) ?_
  refine S_gd (fun c5 => ?_)
  refine s_getI (pc := 116) (k := 0) c5 ft_X4_9 rfl (by decide +kernel) ?_
  refine s_iconst (pc := 119) (n := 1) (v := (1 : Int32)) (by decide) (by decide +kernel) ?_
  refine s_iadd (pc := 120) (by decide +kernel) ?_
  refine s_putI (pc := 121) (k := 0) c5 ft_X4_9 (fw_4_0 _ _) rfl rfl (by decide +kernel) ?_
  refine s_nmH (o := g3) rfl (fun g6 e7 => ?_)
  exact s_vret (pc := 124) rfl (by decide +kernel)
theorem pX4_addKnot_e    (a0 : Nat) (a1 : Int64) (a3 : Int64) (a5 : Int64) (a7 : Int64) (a9 : Int32) (h : xH) : S emV kX4_addKnot h 0 [(0, .ref a0), (1, .long a1), (3, .long a3), (5, .long a5), (7, .long a7), (9, .int a9)] [] h (fX4_addKnot  a0 a1 a3 a5 a7 a9 h) := by
  unfold fX4_addKnot
  refine s_lload_n (pc := 0) (k0 := 1) (i := 1) rfl 1 rfl (by decide +kernel) ?_
  refine s_lload_n (pc := 1) (k0 := 3) (i := 3) rfl 2 rfl (by decide +kernel) ?_
  refine s_cSj (pc := 2) [.long a1, .long a3] (tX2_commonDivisor a1 a3 h) cw_X4_32 rfl ⟨⟨Nat.le_of_ble_eq_true rfl, Nat.le_of_ble_eq_true rfl⟩, Nat.le_of_ble_eq_true rfl⟩ rfl (by decide +kernel) (fun w3 g1 e2 => ?_)
  refine s_lstore (pc := 5) (L' := [(10, .long w3), (0, .ref a0), (1, .long a1), (3, .long a3), (5, .long a5), (7, .long a7), (9, .int a9)]) (i := 10) (by decide) rfl (by decide +kernel) ?_
  refine s_lload (pc := 7) (i := 5) 4 rfl (by decide +kernel) ?_
  refine s_lload (pc := 9) (i := 7) 5 rfl (by decide +kernel) ?_
  refine s_cSj (pc := 11) [.long a5, .long a7] (tX2_commonDivisor a5 a7 g1) cw_X4_32 rfl ⟨⟨Nat.le_of_ble_eq_true rfl, Nat.le_of_ble_eq_true rfl⟩, Nat.le_of_ble_eq_true rfl⟩ rfl (by decide +kernel) (fun w6 g4 e5 => ?_)
  refine s_lstore (pc := 14) (L' := [(12, .long w6), (10, .long w3), (0, .ref a0), (1, .long a1), (3, .long a3), (5, .long a5), (7, .long a7), (9, .int a9)]) (i := 12) (by decide) rfl (by decide +kernel) ?_
  refine s_lload (pc := 16) (i := 10) 1 rfl (by decide +kernel) ?_
  refine s_lconst (pc := 18) (n := 0) (v := (0 : Int64)) (by decide) (by decide +kernel) ?_
  refine s_lcmp (pc := 19) (by decide +kernel) ?_
  refine s_if_eq (pc := 20) (off := 10) 30 (by decide +kernel) (by decide) (fun _ => ?_) (fun _ => ?_)
  · exact s_vret (pc := 30) rfl (by decide +kernel)
  · refine s_lload (pc := 23) (i := 12) 0 rfl (by decide +kernel) ?_
    refine s_lconst (pc := 25) (n := 0) (v := (0 : Int64)) (by decide) (by decide +kernel) ?_
    refine s_lcmp (pc := 26) (by decide +kernel) ?_
    refine s_if_ne (pc := 27) (off := 4) 31 (by decide +kernel) (by decide) (fun _ => ?_) (fun _ => ?_)
    · exact s_vret (pc := 30) rfl (by decide +kernel)
    · refine s_aload_n (pc := 31) (k0 := 0) (i := 0) rfl 2 rfl (by decide +kernel) ?_
      refine s_aload_n (pc := 32) (k0 := 0) (i := 0) rfl 2 rfl (by decide +kernel) ?_
      refine S_gd (fun c7 => ?_)
      refine s_getI (pc := 33) (k := 0) c7 ft_X4_9 rfl (by decide +kernel) ?_
      refine s_iconst (pc := 36) (n := 1) (v := (1 : Int32)) (by decide) (by decide +kernel) ?_
      refine s_iadd (pc := 37) (by decide +kernel) ?_
      refine s_cVv (pc := 38) [.int ((hI g4 a0 0) + (1 : Int32))] (tX4_makeRoom a0 ((hI g4 a0 0) + (1 : Int32)) g4) c7 cw_X4_38 rfl ⟨⟨Nat.le_of_ble_eq_true rfl, Nat.le_of_ble_eq_true rfl⟩, Nat.le_of_ble_eq_true rfl⟩ rfl (by decide +kernel) (fun _ g8 e9 => ?_)
      refine s_aload_n (pc := 41) (k0 := 0) (i := 0) rfl 2 rfl (by decide +kernel) ?_
      have c10 := kp e9 c7 (by decide)
      refine s_getR (pc := 42) (k := 1) c10 ft_X4_15 rfl (by decide +kernel) ?_
      refine s_aload_n (pc := 45) (k0 := 0) (i := 0) rfl 2 rfl (by decide +kernel) ?_
      refine s_getI (pc := 46) (k := 0) c10 ft_X4_9 rfl (by decide +kernel) ?_
      refine s_lload_n (pc := 49) (k0 := 1) (i := 1) rfl 3 rfl (by decide +kernel) ?_
      refine s_lload (pc := 50) (i := 10) 1 rfl (by decide +kernel) ?_
      refine s_ldiv (pc := 52) (by decide +kernel) ?_
      refine S_gd (fun c11 => ?_)
      refine S_gd (fun c12 => ?_)
      refine s_last (pc := 53) c11 c12 (by decide +kernel) ?_
      refine s_nmH (o := g8) rfl (fun g13 e14 => ?_)
      refine s_aload_n (pc := 54) (k0 := 0) (i := 0) rfl 2 rfl (by decide +kernel) ?_
      have c15 := kp e14 c10 (by decide)
      refine s_getR (pc := 55) (k := 2) c15 ft_X4_19 rfl (by decide +kernel) ?_
      refine s_aload_n (pc := 58) (k0 := 0) (i := 0) rfl 2 rfl (by decide +kernel) ?_
      refine s_getI (pc := 59) (k := 0) c15 ft_X4_9 rfl (by decide +kernel) ?_
      refine s_lload_n (pc := 62) (k0 := 3) (i := 3) rfl 4 rfl (by decide +kernel) ?_
      refine s_lload (pc := 63) (i := 10) 1 rfl (by decide +kernel) ?_
      refine s_ldiv (pc := 65) (by decide +kernel) ?_
      refine S_gd (fun c16 => ?_)
      refine S_gd (fun c17 => ?_)
      refine s_last (pc := 66) c16 c17 (by decide +kernel) ?_
      refine s_nmH (o := g13) rfl (fun g18 e19 => ?_)
      refine s_aload_n (pc := 67) (k0 := 0) (i := 0) rfl 2 rfl (by decide +kernel) ?_
      have c20 := kp e19 c15 (by decide)
      refine s_getR (pc := 68) (k := 3) c20 ft_X4_22 rfl (by decide +kernel) ?_
      refine s_aload_n (pc := 71) (k0 := 0) (i := 0) rfl 2 rfl (by decide +kernel) ?_
      refine s_getI (pc := 72) (k := 0) c20 ft_X4_9 rfl (by decide +kernel) ?_
      refine s_lload (pc := 75) (i := 5) 5 rfl (by decide +kernel) ?_
      refine s_lload (pc := 77) (i := 12) 0 rfl (by decide +kernel) ?_
      refine s_ldiv (pc := 79) (by decide +kernel) ?_
      refine S_gd (fun c21 => ?_)
      refine S_gd (fun c22 => ?_)
      refine s_last (pc := 80) c21 c22 (by decide +kernel) ?_
      refine s_nmH (o := g18) rfl (fun g23 e24 => ?_)
      refine s_aload_n (pc := 81) (k0 := 0) (i := 0) rfl 2 rfl (by decide +kernel) ?_
      have c25 := kp e24 c20 (by decide)
      refine s_getR (pc := 82) (k := 4) c25 ft_X4_25 rfl (by decide +kernel) ?_
      refine s_aload_n (pc := 85) (k0 := 0) (i := 0) rfl 2 rfl (by decide +kernel) ?_
      refine s_getI (pc := 86) (k := 0) c25 ft_X4_9 rfl (by decide +kernel) ?_
      refine s_lload (pc := 89) (i := 7) 6 rfl (by decide +kernel) ?_
      refine s_lload (pc := 91) (i := 12) 0 rfl (by decide +kernel) ?_
      refine s_ldiv (pc := 93) (by decide +kernel) ?_
      refine S_gd (fun c26 => ?_)
      refine S_gd (fun c27 => ?_)
      refine s_last (pc := 94) c26 c27 (by decide +kernel) ?_
      refine s_nmH (o := g23) rfl (fun g28 e29 => ?_)
      refine s_aload_n (pc := 95) (k0 := 0) (i := 0) rfl 2 rfl (by decide +kernel) ?_
      have c30 := kp e29 c25 (by decide)
      refine s_getR (pc := 96) (k := 5) c30 ft_X4_28 rfl (by decide +kernel) ?_
      refine s_aload_n (pc := 99) (k0 := 0) (i := 0) rfl 2 rfl (by decide +kernel) ?_
      refine s_getI (pc := 100) (k := 0) c30 ft_X4_9 rfl (by decide +kernel) ?_
      refine s_iload (pc := 103) (i := 9) 7 rfl (by decide +kernel) ?_
      refine s_if_eq (pc := 105) (off := 7) 112 (by decide +kernel) (by decide) (fun _ => ?_) (fun _ => ?_)
      · refine s_iconst (pc := 112) (n := 0) (v := (0 : Int32)) (by decide) (by decide +kernel) ?_
        refine S_sub [2] rfl ?_
        exact pX4_addKnot_b113 (0 : Int32) (hI g28 a0 0) (hR g28 a0 5) a0 g28
      · refine s_iconst (pc := 108) (n := 1) (v := (1 : Int32)) (by decide) (by decide +kernel) ?_
        refine s_goto (pc := 109) (off := 4) 113 (by decide +kernel) (by decide) ?_
        refine S_sub [2] rfl ?_
        exact pX4_addKnot_b113 (1 : Int32) (hI g28 a0 0) (hR g28 a0 5) a0 g28
theorem tX4_addKnot (a0 : Nat) (a1 : Int64) (a3 : Int64) (a5 : Int64) (a7 : Int64) (a9 : Int32) (h : xH) : Ct yX4_addKnot kX4_addKnot emV [.ref a0, .long a1, .long a3, .long a5, .long a7, .int a9] h (fX4_addKnot a0 a1 a3 a5 a7 a9 h) := Ct_of (by decide +kernel) rfl rfl rfl (Nat.le_of_ble_eq_true rfl) rfl (pX4_addKnot_e a0 a1 a3 a5 a7 a9 h)
def fX4_hasLine   (a0 : Nat) (a1 : Int32) (h : xH) : Option (Int32 × xH) :=
  if kc h a0 = 4 then
  if kc h (hR h a0 5) = 8 then
  if ix a1 (kl h (hR h a0 5)) then
  if (hI h (hR h a0 5) a1.toNatClampNeg) = (1 : Int32) then (
  if (hI h a0 0) ≤ (a1 + (1 : Int32)) then (
  some ((0 : Int32), h))
  else (
  some ((1 : Int32), h)))
  else (
  some ((0 : Int32), h))
  else none
  else none
  else none
theorem pX4_hasLine_e    (a0 : Nat) (a1 : Int32) (h : xH) : S emI kX4_hasLine h 0 [(0, .ref a0), (1, .int a1)] [] h (fX4_hasLine  a0 a1 h) := by
  unfold fX4_hasLine
  refine s_aload_n (pc := 0) (k0 := 0) (i := 0) rfl 0 rfl (by decide +kernel) ?_
  refine S_gd (fun c1 => ?_)
  refine s_getR (pc := 1) (k := 5) c1 ft_X4_28 rfl (by decide +kernel) ?_
  refine s_iload_n (pc := 4) (k0 := 1) (i := 1) rfl 1 rfl (by decide +kernel) ?_
  refine S_gd (fun c2 => ?_)
  refine S_gd (fun c3 => ?_)
  refine s_iald (pc := 5) c2 c3 (by decide +kernel) ?_
  refine s_iconst (pc := 6) (n := 1) (v := (1 : Int32)) (by decide) (by decide +kernel) ?_
  refine s_icmp_ne (pc := 7) (off := 17) 24 (by decide +kernel) (by decide) (fun _ => ?_) (fun _ => ?_)
  · refine s_iload_n (pc := 10) (k0 := 1) (i := 1) rfl 1 rfl (by decide +kernel) ?_
    refine s_iconst (pc := 11) (n := 1) (v := (1 : Int32)) (by decide) (by decide +kernel) ?_
    refine s_iadd (pc := 12) (by decide +kernel) ?_
    refine s_aload_n (pc := 13) (k0 := 0) (i := 0) rfl 0 rfl (by decide +kernel) ?_
    refine s_getI (pc := 14) (k := 0) c1 ft_X4_9 rfl (by decide +kernel) ?_
    refine s_icmp_ge (pc := 17) (off := 7) 24 (by decide +kernel) (by decide) (fun _ => ?_) (fun _ => ?_)
    · refine s_iconst (pc := 24) (n := 0) (v := (0 : Int32)) (by decide) (by decide +kernel) ?_
      exact s_zret (pc := 25) (by decide) rfl (by decide +kernel)
    · refine s_iconst (pc := 20) (n := 1) (v := (1 : Int32)) (by decide) (by decide +kernel) ?_
      refine s_goto (pc := 21) (off := 4) 25 (by decide +kernel) (by decide) ?_
      exact s_zret (pc := 25) (by decide) rfl (by decide +kernel)
  · refine s_iconst (pc := 24) (n := 0) (v := (0 : Int32)) (by decide) (by decide +kernel) ?_
    exact s_zret (pc := 25) (by decide) rfl (by decide +kernel)
theorem tX4_hasLine (a0 : Nat) (a1 : Int32) (h : xH) : Ct yX4_hasLine kX4_hasLine emI [.ref a0, .int a1] h (fX4_hasLine a0 a1 h) := Ct_of (by decide +kernel) rfl rfl rfl (Nat.le_of_ble_eq_true rfl) rfl (pX4_hasLine_e a0 a1 h)
def fX4_beginsPiece_b22    (h : xH) : Option (Int32 × xH) :=
  some ((1 : Int32), h)
def fX4_beginsPiece   (a0 : Nat) (a1 : Int32) (h : xH) : Option (Int32 × xH) :=
  if kc h a0 = 4 then
  bd (fX4_hasLine a0 a1 h) (fun w4 g2 =>
  if w4 = 0 then (
  if a1 = 0 then (
  fX4_beginsPiece_b22 g2)
  else (
  bd (fX4_hasLine a0 (a1 - (1 : Int32)) g2) (fun w8 g6 =>
  if w8 = 0 then (
  fX4_beginsPiece_b22 g6)
  else (
  some ((0 : Int32), g6)))))
  else (
  fX4_beginsPiece_b22 g2))
  else none
theorem pX4_beginsPiece_b22 {h0 : xH}     (h : xH) : S emI kX4_beginsPiece h0 22 [] [] h (fX4_beginsPiece_b22  h) := by
  unfold fX4_beginsPiece_b22
  refine s_iconst (pc := 22) (n := 1) (v := (1 : Int32)) (by decide) (by decide +kernel) ?_
  refine s_goto (pc := 23) (off := 4) 27 (by decide +kernel) (by decide) ?_
  exact s_zret (pc := 27) (by decide) rfl (by decide +kernel)
theorem pX4_beginsPiece_e    (a0 : Nat) (a1 : Int32) (h : xH) : S emI kX4_beginsPiece h 0 [(0, .ref a0), (1, .int a1)] [] h (fX4_beginsPiece  a0 a1 h) := by
  unfold fX4_beginsPiece
  refine s_aload_n (pc := 0) (k0 := 0) (i := 0) rfl 0 rfl (by decide +kernel) ?_
  refine s_iload_n (pc := 1) (k0 := 1) (i := 1) rfl 1 rfl (by decide +kernel) ?_
  refine S_gd (fun c1 => ?_)
  refine s_cVi (pc := 2) [.int a1] (tX4_hasLine a0 a1 h) c1 cw_X4_67 rfl ⟨⟨Nat.le_of_ble_eq_true rfl, Nat.le_of_ble_eq_true rfl⟩, Nat.le_of_ble_eq_true rfl⟩ rfl (by decide +kernel) (fun w4 g2 e3 => ?_)
  refine s_if_ne (pc := 5) (off := 17) 22 (by decide +kernel) (by decide) (fun _ => ?_) (fun _ => ?_)
  · refine s_iload_n (pc := 8) (k0 := 1) (i := 1) rfl 1 rfl (by decide +kernel) ?_
    refine s_if_eq (pc := 9) (off := 13) 22 (by decide +kernel) (by decide) (fun _ => ?_) (fun _ => ?_)
    · refine S_sub [] rfl ?_
      exact pX4_beginsPiece_b22 g2
    · refine s_aload_n (pc := 12) (k0 := 0) (i := 0) rfl 0 rfl (by decide +kernel) ?_
      refine s_iload_n (pc := 13) (k0 := 1) (i := 1) rfl 1 rfl (by decide +kernel) ?_
      refine s_iconst (pc := 14) (n := 1) (v := (1 : Int32)) (by decide) (by decide +kernel) ?_
      refine s_isub (pc := 15) (by decide +kernel) ?_
      have c5 := kp e3 c1 (by decide)
      refine s_cVi (pc := 16) [.int (a1 - (1 : Int32))] (tX4_hasLine a0 (a1 - (1 : Int32)) g2) c5 cw_X4_67 rfl ⟨⟨Nat.le_of_ble_eq_true rfl, Nat.le_of_ble_eq_true rfl⟩, Nat.le_of_ble_eq_true rfl⟩ rfl (by decide +kernel) (fun w8 g6 e7 => ?_)
      refine s_if_ne (pc := 19) (off := 7) 26 (by decide +kernel) (by decide) (fun _ => ?_) (fun _ => ?_)
      · refine S_sub [] rfl ?_
        exact pX4_beginsPiece_b22 g6
      · refine s_iconst (pc := 26) (n := 0) (v := (0 : Int32)) (by decide) (by decide +kernel) ?_
        exact s_zret (pc := 27) (by decide) rfl (by decide +kernel)
  · refine S_sub [] rfl ?_
    exact pX4_beginsPiece_b22 g2
theorem tX4_beginsPiece (a0 : Nat) (a1 : Int32) (h : xH) : Ct yX4_beginsPiece kX4_beginsPiece emI [.ref a0, .int a1] h (fX4_beginsPiece a0 a1 h) := Ct_of (by decide +kernel) rfl rfl rfl (Nat.le_of_ble_eq_true rfl) rfl (pX4_beginsPiece_e a0 a1 h)
def fX4_runOf   (a0 : Nat) (a1 : Int32) (h : xH) : Option (Int64 × xH) :=
  if kc h a0 = 4 then
  bd (fX4_hasLine a0 a1 h) (fun w4 g2 =>
  if w4 = 0 then (
  some ((0 : Int64), g2))
  else (
  if kc g2 (hR g2 a0 1) = 9 then
  if ix (a1 + (1 : Int32)) (kl g2 (hR g2 a0 1)) then
  if ix a1 (kl g2 (hR g2 a0 1)) then
  some (((hJ g2 (hR g2 a0 1) (a1 + (1 : Int32)).toNatClampNeg) - (hJ g2 (hR g2 a0 1) a1.toNatClampNeg)), g2)
  else none
  else none
  else none))
  else none
theorem pX4_runOf_e    (a0 : Nat) (a1 : Int32) (h : xH) : S emJ kX4_runOf h 0 [(0, .ref a0), (1, .int a1)] [] h (fX4_runOf  a0 a1 h) := by
  unfold fX4_runOf
  refine s_aload_n (pc := 0) (k0 := 0) (i := 0) rfl 0 rfl (by decide +kernel) ?_
  refine s_iload_n (pc := 1) (k0 := 1) (i := 1) rfl 1 rfl (by decide +kernel) ?_
  refine S_gd (fun c1 => ?_)
  refine s_cVi (pc := 2) [.int a1] (tX4_hasLine a0 a1 h) c1 cw_X4_67 rfl ⟨⟨Nat.le_of_ble_eq_true rfl, Nat.le_of_ble_eq_true rfl⟩, Nat.le_of_ble_eq_true rfl⟩ rfl (by decide +kernel) (fun w4 g2 e3 => ?_)
  refine s_if_eq (pc := 5) (off := 21) 26 (by decide +kernel) (by decide) (fun _ => ?_) (fun _ => ?_)
  · refine s_lconst (pc := 26) (n := 0) (v := (0 : Int64)) (by decide) (by decide +kernel) ?_
    exact s_lret (pc := 27) rfl (by decide +kernel)
  · refine s_aload_n (pc := 8) (k0 := 0) (i := 0) rfl 0 rfl (by decide +kernel) ?_
    have c5 := kp e3 c1 (by decide)
    refine s_getR (pc := 9) (k := 1) c5 ft_X4_15 rfl (by decide +kernel) ?_
    refine s_iload_n (pc := 12) (k0 := 1) (i := 1) rfl 1 rfl (by decide +kernel) ?_
    refine s_iconst (pc := 13) (n := 1) (v := (1 : Int32)) (by decide) (by decide +kernel) ?_
    refine s_iadd (pc := 14) (by decide +kernel) ?_
    refine S_gd (fun c6 => ?_)
    refine S_gd (fun c7 => ?_)
    refine s_lald (pc := 15) c6 c7 (by decide +kernel) ?_
    refine s_aload_n (pc := 16) (k0 := 0) (i := 0) rfl 0 rfl (by decide +kernel) ?_
    refine s_getR (pc := 17) (k := 1) c5 ft_X4_15 rfl (by decide +kernel) ?_
    refine s_iload_n (pc := 20) (k0 := 1) (i := 1) rfl 1 rfl (by decide +kernel) ?_
    refine S_gd (fun c8 => ?_)
    refine s_lald (pc := 21) c6 c8 (by decide +kernel) ?_
    refine s_lsub (pc := 22) (by decide +kernel) ?_
    refine s_goto (pc := 23) (off := 4) 27 (by decide +kernel) (by decide) ?_
    exact s_lret (pc := 27) rfl (by decide +kernel)
theorem tX4_runOf (a0 : Nat) (a1 : Int32) (h : xH) : Ct yX4_runOf kX4_runOf emJ [.ref a0, .int a1] h (fX4_runOf a0 a1 h) := Ct_of (by decide +kernel) rfl rfl rfl (Nat.le_of_ble_eq_true rfl) rfl (pX4_runOf_e a0 a1 h)
def fX4_riseOf   (a0 : Nat) (a1 : Int32) (h : xH) : Option (Int64 × xH) :=
  if kc h a0 = 4 then
  bd (fX4_hasLine a0 a1 h) (fun w4 g2 =>
  if w4 = 0 then (
  some ((0 : Int64), g2))
  else (
  if kc g2 (hR g2 a0 3) = 9 then
  if ix (a1 + (1 : Int32)) (kl g2 (hR g2 a0 3)) then
  if ix a1 (kl g2 (hR g2 a0 3)) then
  some (((hJ g2 (hR g2 a0 3) (a1 + (1 : Int32)).toNatClampNeg) - (hJ g2 (hR g2 a0 3) a1.toNatClampNeg)), g2)
  else none
  else none
  else none))
  else none
theorem pX4_riseOf_e    (a0 : Nat) (a1 : Int32) (h : xH) : S emJ kX4_riseOf h 0 [(0, .ref a0), (1, .int a1)] [] h (fX4_riseOf  a0 a1 h) := by
  unfold fX4_riseOf
  refine s_aload_n (pc := 0) (k0 := 0) (i := 0) rfl 0 rfl (by decide +kernel) ?_
  refine s_iload_n (pc := 1) (k0 := 1) (i := 1) rfl 1 rfl (by decide +kernel) ?_
  refine S_gd (fun c1 => ?_)
  refine s_cVi (pc := 2) [.int a1] (tX4_hasLine a0 a1 h) c1 cw_X4_67 rfl ⟨⟨Nat.le_of_ble_eq_true rfl, Nat.le_of_ble_eq_true rfl⟩, Nat.le_of_ble_eq_true rfl⟩ rfl (by decide +kernel) (fun w4 g2 e3 => ?_)
  refine s_if_eq (pc := 5) (off := 21) 26 (by decide +kernel) (by decide) (fun _ => ?_) (fun _ => ?_)
  · refine s_lconst (pc := 26) (n := 0) (v := (0 : Int64)) (by decide) (by decide +kernel) ?_
    exact s_lret (pc := 27) rfl (by decide +kernel)
  · refine s_aload_n (pc := 8) (k0 := 0) (i := 0) rfl 0 rfl (by decide +kernel) ?_
    have c5 := kp e3 c1 (by decide)
    refine s_getR (pc := 9) (k := 3) c5 ft_X4_22 rfl (by decide +kernel) ?_
    refine s_iload_n (pc := 12) (k0 := 1) (i := 1) rfl 1 rfl (by decide +kernel) ?_
    refine s_iconst (pc := 13) (n := 1) (v := (1 : Int32)) (by decide) (by decide +kernel) ?_
    refine s_iadd (pc := 14) (by decide +kernel) ?_
    refine S_gd (fun c6 => ?_)
    refine S_gd (fun c7 => ?_)
    refine s_lald (pc := 15) c6 c7 (by decide +kernel) ?_
    refine s_aload_n (pc := 16) (k0 := 0) (i := 0) rfl 0 rfl (by decide +kernel) ?_
    refine s_getR (pc := 17) (k := 3) c5 ft_X4_22 rfl (by decide +kernel) ?_
    refine s_iload_n (pc := 20) (k0 := 1) (i := 1) rfl 1 rfl (by decide +kernel) ?_
    refine S_gd (fun c8 => ?_)
    refine s_lald (pc := 21) c6 c8 (by decide +kernel) ?_
    refine s_lsub (pc := 22) (by decide +kernel) ?_
    refine s_goto (pc := 23) (off := 4) 27 (by decide +kernel) (by decide) ?_
    exact s_lret (pc := 27) rfl (by decide +kernel)
theorem tX4_riseOf (a0 : Nat) (a1 : Int32) (h : xH) : Ct yX4_riseOf kX4_riseOf emJ [.ref a0, .int a1] h (fX4_riseOf a0 a1 h) := Ct_of (by decide +kernel) rfl rfl rfl (Nat.le_of_ble_eq_true rfl) rfl (pX4_riseOf_e a0 a1 h)
def fX4_canBeTurned_b89 (r6 : Nat → Int32 → Int32 → Int32 → xH → Option (Int32 × xH)) (s0 : Int32) (a0 : Nat) (a1 : Int32) (a3 : Int32) (h : xH) : Option (Int32 × xH) :=
  lt (a3 + (1 : Int32)) (fun v1 =>
  r6 a0 a1 s0 v1 h)
def fX4_canBeTurned_b88 (r6 : Nat → Int32 → Int32 → Int32 → xH → Option (Int32 × xH))  (a0 : Nat) (a1 : Int32) (a3 : Int32) (h : xH) : Option (Int32 × xH) :=
  fX4_canBeTurned_b89 r6 (0 : Int32) a0 a1 a3 h
def fX4_canBeTurned_b61 (r6 : Nat → Int32 → Int32 → Int32 → xH → Option (Int32 × xH)) (s0 : Int32) (a0 : Nat) (a2 : Int32) (a3 : Int32) (h : xH) : Option (Int32 × xH) :=
  if a2 = 0 then (
  fX4_canBeTurned_b88 r6 a0 s0 a3 h)
  else (
  if kc h a0 = 4 then
  if kc h (hR h a0 3) = 9 then
  if ix a3 (kl h (hR h a0 3)) then
  if ix (a3 - (1 : Int32)) (kl h (hR h a0 3)) then
  if 0 ≤ (lg_cmp (hJ h (hR h a0 3) a3.toNatClampNeg) (hJ h (hR h a0 3) (a3 - (1 : Int32)).toNatClampNeg)) then (
  fX4_canBeTurned_b88 r6 a0 s0 a3 h)
  else (
  fX4_canBeTurned_b89 r6 (1 : Int32) a0 s0 a3 h)
  else none
  else none
  else none
  else none)
def fX4_canBeTurned_b60 (r6 : Nat → Int32 → Int32 → Int32 → xH → Option (Int32 × xH))  (a0 : Nat) (a2 : Int32) (a3 : Int32) (h : xH) : Option (Int32 × xH) :=
  fX4_canBeTurned_b61 r6 (0 : Int32) a0 a2 a3 h
def fX4_canBeTurned_b104    (h : xH) : Option (Int32 × xH) :=
  some ((1 : Int32), h)
def fX4_canBeTurned_b6 (r6 : Nat → Int32 → Int32 → Int32 → xH → Option (Int32 × xH))  (a0 : Nat) (a1 : Int32) (a2 : Int32) (a3 : Int32) (h : xH) : Option (Int32 × xH) :=
  if kc h a0 = 4 then
  if (hI h a0 0) ≤ a3 then (
  if a1 = 0 then (
  if a2 = 0 then (
  some ((0 : Int32), h))
  else (
  fX4_canBeTurned_b104 h))
  else (
  fX4_canBeTurned_b104 h))
  else (
  if kc h (hR h a0 1) = 9 then
  if ix a3 (kl h (hR h a0 1)) then
  if ix (a3 - (1 : Int32)) (kl h (hR h a0 1)) then
  if 0 < (lg_cmp (hJ h (hR h a0 1) a3.toNatClampNeg) (hJ h (hR h a0 1) (a3 - (1 : Int32)).toNatClampNeg)) then (
  if a1 = 0 then (
  fX4_canBeTurned_b60 r6 a0 a2 a3 h)
  else (
  if kc h (hR h a0 3) = 9 then
  if ix a3 (kl h (hR h a0 3)) then
  if ix (a3 - (1 : Int32)) (kl h (hR h a0 3)) then
  if (lg_cmp (hJ h (hR h a0 3) a3.toNatClampNeg) (hJ h (hR h a0 3) (a3 - (1 : Int32)).toNatClampNeg)) ≤ 0 then (
  fX4_canBeTurned_b60 r6 a0 a2 a3 h)
  else (
  fX4_canBeTurned_b61 r6 (1 : Int32) a0 a2 a3 h)
  else none
  else none
  else none))
  else (
  some ((0 : Int32), h))
  else none
  else none
  else none)
  else none
def fX4_canBeTurned_l6  : Nat → Nat → Int32 → Int32 → Int32 → xH → Option (Int32 × xH)
  | 0 => fun _ _ _ _ _ => none
  | k + 1 => fX4_canBeTurned_b6 (fX4_canBeTurned_l6  k)
def fX4_canBeTurned   (a0 : Nat) (h : xH) : Option (Int32 × xH) :=
  lt (1 : Int32) (fun v1 =>
  lt (1 : Int32) (fun v2 =>
  lt (1 : Int32) (fun v3 =>
  fX4_canBeTurned_l6 FU a0 v1 v2 v3 h)))
theorem pX4_canBeTurned_b89 {h0 : xH} {r6 : Nat → Int32 → Int32 → Int32 → xH → Option (Int32 × xH)} (hr6 : ∀  (a0 : Nat) (a1 : Int32) (a2 : Int32) (a3 : Int32) (g : xH), S emI kX4_canBeTurned h0 6 [(0, .ref a0), (1, .int a1), (2, .int a2), (3, .int a3)] [] g (r6  a0 a1 a2 a3 g)) (s0 : Int32) (a0 : Nat) (a1 : Int32) (a3 : Int32) (h : xH) : S emI kX4_canBeTurned h0 89 [(0, .ref a0), (1, .int a1), (3, .int a3)] [.int s0] h (fX4_canBeTurned_b89 r6 s0 a0 a1 a3 h) := by
  unfold fX4_canBeTurned_b89
  refine s_istore_n (pc := 89) (L' := [(2, .int s0), (0, .ref a0), (1, .int a1), (3, .int a3)]) (k0 := 2) (i := 2) rfl (by decide) rfl (by decide +kernel) ?_
  refine s_iinc (pc := 90) (L' := [(3, .int (a3 + (1 : Int32))), (2, .int s0), (0, .ref a0), (1, .int a1)]) (i := 3) (n := 1) 3 rfl rfl (by decide) rfl (by decide +kernel) ?_
  refine s_nmI0 (e := a3 + (1 : Int32)) (L := fun v1 => [(3, .int v1), (2, .int s0), (0, .ref a0), (1, .int a1)]) (fun v1 => ?_)
  refine s_goto (pc := 93) (off := -87) 6 (by decide +kernel) (by decide) ?_
  refine S_sub [2, 3, 1, 0] rfl ?_
  exact hr6 a0 a1 s0 v1 h
theorem pX4_canBeTurned_b88 {h0 : xH} {r6 : Nat → Int32 → Int32 → Int32 → xH → Option (Int32 × xH)} (hr6 : ∀  (a0 : Nat) (a1 : Int32) (a2 : Int32) (a3 : Int32) (g : xH), S emI kX4_canBeTurned h0 6 [(0, .ref a0), (1, .int a1), (2, .int a2), (3, .int a3)] [] g (r6  a0 a1 a2 a3 g))  (a0 : Nat) (a1 : Int32) (a3 : Int32) (h : xH) : S emI kX4_canBeTurned h0 88 [(0, .ref a0), (1, .int a1), (3, .int a3)] [] h (fX4_canBeTurned_b88 r6 a0 a1 a3 h) := by
  unfold fX4_canBeTurned_b88
  refine s_iconst (pc := 88) (n := 0) (v := (0 : Int32)) (by decide) (by decide +kernel) ?_
  exact pX4_canBeTurned_b89 hr6 (0 : Int32) a0 a1 a3 h
theorem pX4_canBeTurned_b61 {h0 : xH} {r6 : Nat → Int32 → Int32 → Int32 → xH → Option (Int32 × xH)} (hr6 : ∀  (a0 : Nat) (a1 : Int32) (a2 : Int32) (a3 : Int32) (g : xH), S emI kX4_canBeTurned h0 6 [(0, .ref a0), (1, .int a1), (2, .int a2), (3, .int a3)] [] g (r6  a0 a1 a2 a3 g)) (s0 : Int32) (a0 : Nat) (a2 : Int32) (a3 : Int32) (h : xH) : S emI kX4_canBeTurned h0 61 [(0, .ref a0), (2, .int a2), (3, .int a3)] [.int s0] h (fX4_canBeTurned_b61 r6 s0 a0 a2 a3 h) := by
  unfold fX4_canBeTurned_b61
  refine s_istore_n (pc := 61) (L' := [(1, .int s0), (0, .ref a0), (2, .int a2), (3, .int a3)]) (k0 := 1) (i := 1) rfl (by decide) rfl (by decide +kernel) ?_
  refine s_iload_n (pc := 62) (k0 := 2) (i := 2) rfl 2 rfl (by decide +kernel) ?_
  refine s_if_eq (pc := 63) (off := 25) 88 (by decide +kernel) (by decide) (fun _ => ?_) (fun _ => ?_)
  · refine S_sub [1, 0, 3] rfl ?_
    exact pX4_canBeTurned_b88 hr6 a0 s0 a3 h
  · refine s_aload_n (pc := 66) (k0 := 0) (i := 0) rfl 1 rfl (by decide +kernel) ?_
    refine S_gd (fun c1 => ?_)
    refine s_getR (pc := 67) (k := 3) c1 ft_X4_22 rfl (by decide +kernel) ?_
    refine s_iload_n (pc := 70) (k0 := 3) (i := 3) rfl 3 rfl (by decide +kernel) ?_
    refine S_gd (fun c2 => ?_)
    refine S_gd (fun c3 => ?_)
    refine s_lald (pc := 71) c2 c3 (by decide +kernel) ?_
    refine s_aload_n (pc := 72) (k0 := 0) (i := 0) rfl 1 rfl (by decide +kernel) ?_
    refine s_getR (pc := 73) (k := 3) c1 ft_X4_22 rfl (by decide +kernel) ?_
    refine s_iload_n (pc := 76) (k0 := 3) (i := 3) rfl 3 rfl (by decide +kernel) ?_
    refine s_iconst (pc := 77) (n := 1) (v := (1 : Int32)) (by decide) (by decide +kernel) ?_
    refine s_isub (pc := 78) (by decide +kernel) ?_
    refine S_gd (fun c4 => ?_)
    refine s_lald (pc := 79) c2 c4 (by decide +kernel) ?_
    refine s_lcmp (pc := 80) (by decide +kernel) ?_
    refine s_if_ge (pc := 81) (off := 7) 88 (by decide +kernel) (by decide) (fun _ => ?_) (fun _ => ?_)
    · refine S_sub [1, 0, 3] rfl ?_
      exact pX4_canBeTurned_b88 hr6 a0 s0 a3 h
    · refine s_iconst (pc := 84) (n := 1) (v := (1 : Int32)) (by decide) (by decide +kernel) ?_
      refine s_goto (pc := 85) (off := 4) 89 (by decide +kernel) (by decide) ?_
      refine S_sub [1, 0, 3] rfl ?_
      exact pX4_canBeTurned_b89 hr6 (1 : Int32) a0 s0 a3 h
theorem pX4_canBeTurned_b60 {h0 : xH} {r6 : Nat → Int32 → Int32 → Int32 → xH → Option (Int32 × xH)} (hr6 : ∀  (a0 : Nat) (a1 : Int32) (a2 : Int32) (a3 : Int32) (g : xH), S emI kX4_canBeTurned h0 6 [(0, .ref a0), (1, .int a1), (2, .int a2), (3, .int a3)] [] g (r6  a0 a1 a2 a3 g))  (a0 : Nat) (a2 : Int32) (a3 : Int32) (h : xH) : S emI kX4_canBeTurned h0 60 [(0, .ref a0), (2, .int a2), (3, .int a3)] [] h (fX4_canBeTurned_b60 r6 a0 a2 a3 h) := by
  unfold fX4_canBeTurned_b60
  refine s_iconst (pc := 60) (n := 0) (v := (0 : Int32)) (by decide) (by decide +kernel) ?_
  exact pX4_canBeTurned_b61 hr6 (0 : Int32) a0 a2 a3 h
theorem pX4_canBeTurned_b104 {h0 : xH}     (h : xH) : S emI kX4_canBeTurned h0 104 [] [] h (fX4_canBeTurned_b104  h) := by
  unfold fX4_canBeTurned_b104
  refine s_iconst (pc := 104) (n := 1) (v := (1 : Int32)) (by decide) (by decide +kernel) ?_
  refine s_goto (pc := 105) (off := 4) 109 (by decide +kernel) (by decide) ?_
  exact s_zret (pc := 109) (by decide) rfl (by decide +kernel)
theorem pX4_canBeTurned_b6 {h0 : xH} {r6 : Nat → Int32 → Int32 → Int32 → xH → Option (Int32 × xH)} (hr6 : ∀  (a0 : Nat) (a1 : Int32) (a2 : Int32) (a3 : Int32) (g : xH), S emI kX4_canBeTurned h0 6 [(0, .ref a0), (1, .int a1), (2, .int a2), (3, .int a3)] [] g (r6  a0 a1 a2 a3 g))  (a0 : Nat) (a1 : Int32) (a2 : Int32) (a3 : Int32) (h : xH) : S emI kX4_canBeTurned h0 6 [(0, .ref a0), (1, .int a1), (2, .int a2), (3, .int a3)] [] h (fX4_canBeTurned_b6 r6 a0 a1 a2 a3 h) := by
  unfold fX4_canBeTurned_b6
  refine s_iload_n (pc := 6) (k0 := 3) (i := 3) rfl 3 rfl (by decide +kernel) ?_
  refine s_aload_n (pc := 7) (k0 := 0) (i := 0) rfl 0 rfl (by decide +kernel) ?_
  refine S_gd (fun c1 => ?_)
  refine s_getI (pc := 8) (k := 0) c1 ft_X4_9 rfl (by decide +kernel) ?_
  refine s_icmp_ge (pc := 11) (off := 85) 96 (by decide +kernel) (by decide) (fun _ => ?_) (fun _ => ?_)
  · refine s_iload_n (pc := 96) (k0 := 1) (i := 1) rfl 1 rfl (by decide +kernel) ?_
    refine s_if_ne (pc := 97) (off := 7) 104 (by decide +kernel) (by decide) (fun _ => ?_) (fun _ => ?_)
    · refine s_iload_n (pc := 100) (k0 := 2) (i := 2) rfl 2 rfl (by decide +kernel) ?_
      refine s_if_eq (pc := 101) (off := 7) 108 (by decide +kernel) (by decide) (fun _ => ?_) (fun _ => ?_)
      · refine s_iconst (pc := 108) (n := 0) (v := (0 : Int32)) (by decide) (by decide +kernel) ?_
        exact s_zret (pc := 109) (by decide) rfl (by decide +kernel)
      · refine S_sub [] rfl ?_
        exact pX4_canBeTurned_b104 h
    · refine S_sub [] rfl ?_
      exact pX4_canBeTurned_b104 h
  · refine s_aload_n (pc := 14) (k0 := 0) (i := 0) rfl 0 rfl (by decide +kernel) ?_
    refine s_getR (pc := 15) (k := 1) c1 ft_X4_15 rfl (by decide +kernel) ?_
    refine s_iload_n (pc := 18) (k0 := 3) (i := 3) rfl 3 rfl (by decide +kernel) ?_
    refine S_gd (fun c2 => ?_)
    refine S_gd (fun c3 => ?_)
    refine s_lald (pc := 19) c2 c3 (by decide +kernel) ?_
    refine s_aload_n (pc := 20) (k0 := 0) (i := 0) rfl 0 rfl (by decide +kernel) ?_
    refine s_getR (pc := 21) (k := 1) c1 ft_X4_15 rfl (by decide +kernel) ?_
    refine s_iload_n (pc := 24) (k0 := 3) (i := 3) rfl 3 rfl (by decide +kernel) ?_
    refine s_iconst (pc := 25) (n := 1) (v := (1 : Int32)) (by decide) (by decide +kernel) ?_
    refine s_isub (pc := 26) (by decide +kernel) ?_
    refine S_gd (fun c4 => ?_)
    refine s_lald (pc := 27) c2 c4 (by decide +kernel) ?_
    refine s_lcmp (pc := 28) (by decide +kernel) ?_
    refine s_if_gt (pc := 29) (off := 5) 34 (by decide +kernel) (by decide) (fun _ => ?_) (fun _ => ?_)
    · refine s_iload_n (pc := 34) (k0 := 1) (i := 1) rfl 1 rfl (by decide +kernel) ?_
      refine s_if_eq (pc := 35) (off := 25) 60 (by decide +kernel) (by decide) (fun _ => ?_) (fun _ => ?_)
      · refine S_sub [0, 2, 3] rfl ?_
        exact pX4_canBeTurned_b60 hr6 a0 a2 a3 h
      · refine s_aload_n (pc := 38) (k0 := 0) (i := 0) rfl 0 rfl (by decide +kernel) ?_
        refine s_getR (pc := 39) (k := 3) c1 ft_X4_22 rfl (by decide +kernel) ?_
        refine s_iload_n (pc := 42) (k0 := 3) (i := 3) rfl 3 rfl (by decide +kernel) ?_
        refine S_gd (fun c5 => ?_)
        refine S_gd (fun c6 => ?_)
        refine s_lald (pc := 43) c5 c6 (by decide +kernel) ?_
        refine s_aload_n (pc := 44) (k0 := 0) (i := 0) rfl 0 rfl (by decide +kernel) ?_
        refine s_getR (pc := 45) (k := 3) c1 ft_X4_22 rfl (by decide +kernel) ?_
        refine s_iload_n (pc := 48) (k0 := 3) (i := 3) rfl 3 rfl (by decide +kernel) ?_
        refine s_iconst (pc := 49) (n := 1) (v := (1 : Int32)) (by decide) (by decide +kernel) ?_
        refine s_isub (pc := 50) (by decide +kernel) ?_
        refine S_gd (fun c7 => ?_)
        refine s_lald (pc := 51) c5 c7 (by decide +kernel) ?_
        refine s_lcmp (pc := 52) (by decide +kernel) ?_
        refine s_if_le (pc := 53) (off := 7) 60 (by decide +kernel) (by decide) (fun _ => ?_) (fun _ => ?_)
        · refine S_sub [0, 2, 3] rfl ?_
          exact pX4_canBeTurned_b60 hr6 a0 a2 a3 h
        · refine s_iconst (pc := 56) (n := 1) (v := (1 : Int32)) (by decide) (by decide +kernel) ?_
          refine s_goto (pc := 57) (off := 4) 61 (by decide +kernel) (by decide) ?_
          refine S_sub [0, 2, 3] rfl ?_
          exact pX4_canBeTurned_b61 hr6 (1 : Int32) a0 a2 a3 h
    · refine s_iconst (pc := 32) (n := 0) (v := (0 : Int32)) (by decide) (by decide +kernel) ?_
      exact s_zret (pc := 33) (by decide) rfl (by decide +kernel)
theorem pX4_canBeTurned_l6 {h0 : xH}   : ∀ (k : Nat)  (a0 : Nat) (a1 : Int32) (a2 : Int32) (a3 : Int32) (h : xH), S emI kX4_canBeTurned h0 6 [(0, .ref a0), (1, .int a1), (2, .int a2), (3, .int a3)] [] h (fX4_canBeTurned_l6  k  a0 a1 a2 a3 h) := by
  intro k
  induction k with
  | zero => intros; exact S_none
  | succ k ih => intro  a0 a1 a2 a3 h; exact pX4_canBeTurned_b6 ih  a0 a1 a2 a3 h
theorem pX4_canBeTurned_e    (a0 : Nat) (h : xH) : S emI kX4_canBeTurned h 0 [(0, .ref a0)] [] h (fX4_canBeTurned  a0 h) := by
  unfold fX4_canBeTurned
  refine s_iconst (pc := 0) (n := 1) (v := (1 : Int32)) (by decide) (by decide +kernel) ?_
  refine s_nmI (fun v1 => ?_)
  refine s_istore_n (pc := 1) (L' := [(1, .int v1), (0, .ref a0)]) (k0 := 1) (i := 1) rfl (by decide) rfl (by decide +kernel) ?_
  refine s_iconst (pc := 2) (n := 1) (v := (1 : Int32)) (by decide) (by decide +kernel) ?_
  refine s_nmI (fun v2 => ?_)
  refine s_istore_n (pc := 3) (L' := [(2, .int v2), (1, .int v1), (0, .ref a0)]) (k0 := 2) (i := 2) rfl (by decide) rfl (by decide +kernel) ?_
  refine s_iconst (pc := 4) (n := 1) (v := (1 : Int32)) (by decide) (by decide +kernel) ?_
  refine s_nmI (fun v3 => ?_)
  refine s_istore_n (pc := 5) (L' := [(3, .int v3), (2, .int v2), (1, .int v1), (0, .ref a0)]) (k0 := 3) (i := 3) rfl (by decide) rfl (by decide +kernel) ?_
  refine S_sub [3, 2, 1, 0] rfl ?_
  exact pX4_canBeTurned_l6 FU a0 v1 v2 v3 h
theorem tX4_canBeTurned (a0 : Nat) (h : xH) : Ct yX4_canBeTurned kX4_canBeTurned emI [.ref a0] h (fX4_canBeTurned a0 h) := Ct_of (by decide +kernel) rfl rfl rfl (Nat.le_of_ble_eq_true rfl) rfl (pX4_canBeTurned_e a0 h)
def fX4_endOfPiece   (a0 : Nat) (a1 : Int32) (h : xH) : Option (Int32 × xH) :=
  if kc h a0 = 4 then
  bd (fX4_hasLine a0 a1 h) (fun w4 g2 =>
  if w4 = 0 then (
  some (a1, g2))
  else (
  some ((a1 + (1 : Int32)), g2)))
  else none
theorem pX4_endOfPiece_e    (a0 : Nat) (a1 : Int32) (h : xH) : S emI kX4_endOfPiece h 0 [(0, .ref a0), (1, .int a1)] [] h (fX4_endOfPiece  a0 a1 h) := by
  unfold fX4_endOfPiece
  refine s_aload_n (pc := 0) (k0 := 0) (i := 0) rfl 0 rfl (by decide +kernel) ?_
  refine s_iload_n (pc := 1) (k0 := 1) (i := 1) rfl 1 rfl (by decide +kernel) ?_
  refine S_gd (fun c1 => ?_)
  refine s_cVi (pc := 2) [.int a1] (tX4_hasLine a0 a1 h) c1 cw_X4_67 rfl ⟨⟨Nat.le_of_ble_eq_true rfl, Nat.le_of_ble_eq_true rfl⟩, Nat.le_of_ble_eq_true rfl⟩ rfl (by decide +kernel) (fun w4 g2 e3 => ?_)
  refine s_if_eq (pc := 5) (off := 9) 14 (by decide +kernel) (by decide) (fun _ => ?_) (fun _ => ?_)
  · refine s_iload_n (pc := 14) (k0 := 1) (i := 1) rfl 1 rfl (by decide +kernel) ?_
    exact s_iret (pc := 15) rfl (by decide +kernel)
  · refine s_iload_n (pc := 8) (k0 := 1) (i := 1) rfl 1 rfl (by decide +kernel) ?_
    refine s_iconst (pc := 9) (n := 1) (v := (1 : Int32)) (by decide) (by decide +kernel) ?_
    refine s_iadd (pc := 10) (by decide +kernel) ?_
    refine s_goto (pc := 11) (off := 4) 15 (by decide +kernel) (by decide) ?_
    exact s_iret (pc := 15) rfl (by decide +kernel)
theorem tX4_endOfPiece (a0 : Nat) (a1 : Int32) (h : xH) : Ct yX4_endOfPiece kX4_endOfPiece emI [.ref a0, .int a1] h (fX4_endOfPiece a0 a1 h) := Ct_of (by decide +kernel) rfl rfl rfl (Nat.le_of_ble_eq_true rfl) rfl (pX4_endOfPiece_e a0 a1 h)
def fX4_hullNext_b105 (r6 : Nat → Int32 → Int32 → Int32 → xH → Option (Int32 × xH))  (a0 : Nat) (a1 : Int32) (a2 : Int32) (a3 : Int32) (h : xH) : Option (Int32 × xH) :=
  lt (a3 + (1 : Int32)) (fun v1 =>
  r6 a0 a1 a2 v1 h)
def fX4_hullNext_b6 (r6 : Nat → Int32 → Int32 → Int32 → xH → Option (Int32 × xH))  (a0 : Nat) (a1 : Int32) (a2 : Int32) (a3 : Int32) (h : xH) : Option (Int32 × xH) :=
  if kc h a0 = 4 then
  if (hI h a0 0) ≤ a3 then (
  some (a2, h))
  else (
  if kc h (hR h a0 1) = 9 then
  if ix a3 (kl h (hR h a0 1)) then
  if ix a1 (kl h (hR h a0 1)) then
  lt ((hJ h (hR h a0 1) a3.toNatClampNeg) - (hJ h (hR h a0 1) a1.toNatClampNeg)) (fun v5 =>
  if 0 < (lg_cmp v5 (0 : Int64)) then (
  if 0 ≤ a2 then (
  if kc h (hR h a0 3) = 9 then
  if ix a3 (kl h (hR h a0 3)) then
  if ix a1 (kl h (hR h a0 3)) then
  if ix a2 (kl h (hR h a0 1)) then
  lt (((hJ h (hR h a0 3) a3.toNatClampNeg) - (hJ h (hR h a0 3) a1.toNatClampNeg)) * ((hJ h (hR h a0 1) a2.toNatClampNeg) - (hJ h (hR h a0 1) a1.toNatClampNeg))) (fun v10 =>
  if ix a2 (kl h (hR h a0 3)) then
  lt (((hJ h (hR h a0 3) a2.toNatClampNeg) - (hJ h (hR h a0 3) a1.toNatClampNeg)) * v5) (fun v12 =>
  if 0 < (lg_cmp v10 v12) then (
  fX4_hullNext_b105 r6 a0 a1 a2 a3 h)
  else (
  fX4_hullNext_b105 r6 a0 a1 a3 a3 h))
  else none)
  else none
  else none
  else none
  else none)
  else (
  fX4_hullNext_b105 r6 a0 a1 a3 a3 h))
  else (
  fX4_hullNext_b105 r6 a0 a1 a2 a3 h))
  else none
  else none
  else none)
  else none
def fX4_hullNext_l6  : Nat → Nat → Int32 → Int32 → Int32 → xH → Option (Int32 × xH)
  | 0 => fun _ _ _ _ _ => none
  | k + 1 => fX4_hullNext_b6 (fX4_hullNext_l6  k)
def fX4_hullNext   (a0 : Nat) (a1 : Int32) (h : xH) : Option (Int32 × xH) :=
  lt (-1 : Int32) (fun v1 =>
  lt (a1 + (1 : Int32)) (fun v2 =>
  fX4_hullNext_l6 FU a0 a1 v1 v2 h))
theorem pX4_hullNext_b105 {h0 : xH} {r6 : Nat → Int32 → Int32 → Int32 → xH → Option (Int32 × xH)} (hr6 : ∀  (a0 : Nat) (a1 : Int32) (a2 : Int32) (a3 : Int32) (g : xH), S emI kX4_hullNext h0 6 [(0, .ref a0), (1, .int a1), (2, .int a2), (3, .int a3)] [] g (r6  a0 a1 a2 a3 g))  (a0 : Nat) (a1 : Int32) (a2 : Int32) (a3 : Int32) (h : xH) : S emI kX4_hullNext h0 105 [(0, .ref a0), (1, .int a1), (2, .int a2), (3, .int a3)] [] h (fX4_hullNext_b105 r6 a0 a1 a2 a3 h) := by
  unfold fX4_hullNext_b105
  refine s_iinc (pc := 105) (L' := [(3, .int (a3 + (1 : Int32))), (0, .ref a0), (1, .int a1), (2, .int a2)]) (i := 3) (n := 1) 3 rfl rfl (by decide) rfl (by decide +kernel) ?_
  refine s_nmI0 (e := a3 + (1 : Int32)) (L := fun v1 => [(3, .int v1), (0, .ref a0), (1, .int a1), (2, .int a2)]) (fun v1 => ?_)
  refine s_goto (pc := 108) (off := -102) 6 (by decide +kernel) (by decide) ?_
  refine S_sub [1, 2, 3, 0] rfl ?_
  exact hr6 a0 a1 a2 v1 h
theorem pX4_hullNext_b6 {h0 : xH} {r6 : Nat → Int32 → Int32 → Int32 → xH → Option (Int32 × xH)} (hr6 : ∀  (a0 : Nat) (a1 : Int32) (a2 : Int32) (a3 : Int32) (g : xH), S emI kX4_hullNext h0 6 [(0, .ref a0), (1, .int a1), (2, .int a2), (3, .int a3)] [] g (r6  a0 a1 a2 a3 g))  (a0 : Nat) (a1 : Int32) (a2 : Int32) (a3 : Int32) (h : xH) : S emI kX4_hullNext h0 6 [(0, .ref a0), (1, .int a1), (2, .int a2), (3, .int a3)] [] h (fX4_hullNext_b6 r6 a0 a1 a2 a3 h) := by
  unfold fX4_hullNext_b6
  refine s_iload_n (pc := 6) (k0 := 3) (i := 3) rfl 3 rfl (by decide +kernel) ?_
  refine s_aload_n (pc := 7) (k0 := 0) (i := 0) rfl 0 rfl (by decide +kernel) ?_
  refine S_gd (fun c1 => ?_)
  refine s_getI (pc := 8) (k := 0) c1 ft_X4_9 rfl (by decide +kernel) ?_
  refine s_icmp_ge (pc := 11) (off := 100) 111 (by decide +kernel) (by decide) (fun _ => ?_) (fun _ => ?_)
  · refine s_iload_n (pc := 111) (k0 := 2) (i := 2) rfl 2 rfl (by decide +kernel) ?_
    exact s_iret (pc := 112) rfl (by decide +kernel)
  · refine s_aload_n (pc := 14) (k0 := 0) (i := 0) rfl 0 rfl (by decide +kernel) ?_
    refine s_getR (pc := 15) (k := 1) c1 ft_X4_15 rfl (by decide +kernel) ?_
    refine s_iload_n (pc := 18) (k0 := 3) (i := 3) rfl 3 rfl (by decide +kernel) ?_
    refine S_gd (fun c2 => ?_)
    refine S_gd (fun c3 => ?_)
    refine s_lald (pc := 19) c2 c3 (by decide +kernel) ?_
    refine s_aload_n (pc := 20) (k0 := 0) (i := 0) rfl 0 rfl (by decide +kernel) ?_
    refine s_getR (pc := 21) (k := 1) c1 ft_X4_15 rfl (by decide +kernel) ?_
    refine s_iload_n (pc := 24) (k0 := 1) (i := 1) rfl 1 rfl (by decide +kernel) ?_
    refine S_gd (fun c4 => ?_)
    refine s_lald (pc := 25) c2 c4 (by decide +kernel) ?_
    refine s_lsub (pc := 26) (by decide +kernel) ?_
    refine s_nmJ (fun v5 => ?_)
    refine s_lstore (pc := 27) (L' := [(4, .long v5), (0, .ref a0), (1, .int a1), (2, .int a2), (3, .int a3)]) (i := 4) (by decide) rfl (by decide +kernel) ?_
    refine s_lload (pc := 29) (i := 4) 0 rfl (by decide +kernel) ?_
    refine s_lconst (pc := 31) (n := 0) (v := (0 : Int64)) (by decide) (by decide +kernel) ?_
    refine s_lcmp (pc := 32) (by decide +kernel) ?_
    refine s_if_gt (pc := 33) (off := 6) 39 (by decide +kernel) (by decide) (fun _ => ?_) (fun _ => ?_)
    · refine s_iload_n (pc := 39) (k0 := 2) (i := 2) rfl 3 rfl (by decide +kernel) ?_
      refine s_if_ge (pc := 40) (off := 8) 48 (by decide +kernel) (by decide) (fun _ => ?_) (fun _ => ?_)
      · refine s_aload_n (pc := 48) (k0 := 0) (i := 0) rfl 1 rfl (by decide +kernel) ?_
        refine s_getR (pc := 49) (k := 3) c1 ft_X4_22 rfl (by decide +kernel) ?_
        refine s_iload_n (pc := 52) (k0 := 3) (i := 3) rfl 4 rfl (by decide +kernel) ?_
        refine S_gd (fun c6 => ?_)
        refine S_gd (fun c7 => ?_)
        refine s_lald (pc := 53) c6 c7 (by decide +kernel) ?_
        refine s_aload_n (pc := 54) (k0 := 0) (i := 0) rfl 1 rfl (by decide +kernel) ?_
        refine s_getR (pc := 55) (k := 3) c1 ft_X4_22 rfl (by decide +kernel) ?_
        refine s_iload_n (pc := 58) (k0 := 1) (i := 1) rfl 2 rfl (by decide +kernel) ?_
        refine S_gd (fun c8 => ?_)
        refine s_lald (pc := 59) c6 c8 (by decide +kernel) ?_
        refine s_lsub (pc := 60) (by decide +kernel) ?_
        refine s_aload_n (pc := 61) (k0 := 0) (i := 0) rfl 1 rfl (by decide +kernel) ?_
        refine s_getR (pc := 62) (k := 1) c1 ft_X4_15 rfl (by decide +kernel) ?_
        refine s_iload_n (pc := 65) (k0 := 2) (i := 2) rfl 3 rfl (by decide +kernel) ?_
        refine S_gd (fun c9 => ?_)
        refine s_lald (pc := 66) c2 c9 (by decide +kernel) ?_
        refine s_aload_n (pc := 67) (k0 := 0) (i := 0) rfl 1 rfl (by decide +kernel) ?_
        refine s_getR (pc := 68) (k := 1) c1 ft_X4_15 rfl (by decide +kernel) ?_
        refine s_iload_n (pc := 71) (k0 := 1) (i := 1) rfl 2 rfl (by decide +kernel) ?_
        refine s_lald (pc := 72) c2 c4 (by decide +kernel) ?_
        refine s_lsub (pc := 73) (by decide +kernel) ?_
        refine s_lmul (pc := 74) (by decide +kernel) ?_
        refine s_nmJ (fun v10 => ?_)
        refine s_lstore (pc := 75) (L' := [(6, .long v10), (4, .long v5), (0, .ref a0), (1, .int a1), (2, .int a2), (3, .int a3)]) (i := 6) (by decide) rfl (by decide +kernel) ?_
        refine s_aload_n (pc := 77) (k0 := 0) (i := 0) rfl 2 rfl (by decide +kernel) ?_
        refine s_getR (pc := 78) (k := 3) c1 ft_X4_22 rfl (by decide +kernel) ?_
        refine s_iload_n (pc := 81) (k0 := 2) (i := 2) rfl 4 rfl (by decide +kernel) ?_
        refine S_gd (fun c11 => ?_)
        refine s_lald (pc := 82) c6 c11 (by decide +kernel) ?_
        refine s_aload_n (pc := 83) (k0 := 0) (i := 0) rfl 2 rfl (by decide +kernel) ?_
        refine s_getR (pc := 84) (k := 3) c1 ft_X4_22 rfl (by decide +kernel) ?_
        refine s_iload_n (pc := 87) (k0 := 1) (i := 1) rfl 3 rfl (by decide +kernel) ?_
        refine s_lald (pc := 88) c6 c8 (by decide +kernel) ?_
        refine s_lsub (pc := 89) (by decide +kernel) ?_
        refine s_lload (pc := 90) (i := 4) 1 rfl (by decide +kernel) ?_
        refine s_lmul (pc := 92) (by decide +kernel) ?_
        refine s_nmJ (fun v12 => ?_)
        refine s_lstore (pc := 93) (L' := [(8, .long v12), (6, .long v10), (4, .long v5), (0, .ref a0), (1, .int a1), (2, .int a2), (3, .int a3)]) (i := 8) (by decide) rfl (by decide +kernel) ?_
        refine s_lload (pc := 95) (i := 6) 1 rfl (by decide +kernel) ?_
        refine s_lload (pc := 97) (i := 8) 0 rfl (by decide +kernel) ?_
        refine s_lcmp (pc := 99) (by decide +kernel) ?_
        refine s_if_gt (pc := 100) (off := 5) 105 (by decide +kernel) (by decide) (fun _ => ?_) (fun _ => ?_)
        · refine S_sub [3, 4, 5, 6] rfl ?_
          exact pX4_hullNext_b105 hr6 a0 a1 a2 a3 h
        · refine s_iload_n (pc := 103) (k0 := 3) (i := 3) rfl 6 rfl (by decide +kernel) ?_
          refine s_istore_n (pc := 104) (L' := [(2, .int a3), (8, .long v12), (6, .long v10), (4, .long v5), (0, .ref a0), (1, .int a1), (3, .int a3)]) (k0 := 2) (i := 2) rfl (by decide) rfl (by decide +kernel) ?_
          refine S_sub [4, 5, 0, 6] rfl ?_
          exact pX4_hullNext_b105 hr6 a0 a1 a3 a3 h
      · refine s_iload_n (pc := 43) (k0 := 3) (i := 3) rfl 4 rfl (by decide +kernel) ?_
        refine s_istore_n (pc := 44) (L' := [(2, .int a3), (4, .long v5), (0, .ref a0), (1, .int a1), (3, .int a3)]) (k0 := 2) (i := 2) rfl (by decide) rfl (by decide +kernel) ?_
        refine s_goto (pc := 45) (off := 60) 105 (by decide +kernel) (by decide) ?_
        refine S_sub [2, 3, 0, 4] rfl ?_
        exact pX4_hullNext_b105 hr6 a0 a1 a3 a3 h
    · refine s_goto (pc := 36) (off := 69) 105 (by decide +kernel) (by decide) ?_
      refine S_sub [1, 2, 3, 4] rfl ?_
      exact pX4_hullNext_b105 hr6 a0 a1 a2 a3 h
theorem pX4_hullNext_l6 {h0 : xH}   : ∀ (k : Nat)  (a0 : Nat) (a1 : Int32) (a2 : Int32) (a3 : Int32) (h : xH), S emI kX4_hullNext h0 6 [(0, .ref a0), (1, .int a1), (2, .int a2), (3, .int a3)] [] h (fX4_hullNext_l6  k  a0 a1 a2 a3 h) := by
  intro k
  induction k with
  | zero => intros; exact S_none
  | succ k ih => intro  a0 a1 a2 a3 h; exact pX4_hullNext_b6 ih  a0 a1 a2 a3 h
theorem pX4_hullNext_e    (a0 : Nat) (a1 : Int32) (h : xH) : S emI kX4_hullNext h 0 [(0, .ref a0), (1, .int a1)] [] h (fX4_hullNext  a0 a1 h) := by
  unfold fX4_hullNext
  refine s_iconst (pc := 0) (n := -1) (v := (-1 : Int32)) (by decide) (by decide +kernel) ?_
  refine s_nmI (fun v1 => ?_)
  refine s_istore_n (pc := 1) (L' := [(2, .int v1), (0, .ref a0), (1, .int a1)]) (k0 := 2) (i := 2) rfl (by decide) rfl (by decide +kernel) ?_
  refine s_iload_n (pc := 2) (k0 := 1) (i := 1) rfl 2 rfl (by decide +kernel) ?_
  refine s_iconst (pc := 3) (n := 1) (v := (1 : Int32)) (by decide) (by decide +kernel) ?_
  refine s_iadd (pc := 4) (by decide +kernel) ?_
  refine s_nmI (fun v2 => ?_)
  refine s_istore_n (pc := 5) (L' := [(3, .int v2), (2, .int v1), (0, .ref a0), (1, .int a1)]) (k0 := 3) (i := 3) rfl (by decide) rfl (by decide +kernel) ?_
  refine S_sub [2, 3, 1, 0] rfl ?_
  exact pX4_hullNext_l6 FU a0 a1 v1 v2 h
theorem tX4_hullNext (a0 : Nat) (a1 : Int32) (h : xH) : Ct yX4_hullNext kX4_hullNext emI [.ref a0, .int a1] h (fX4_hullNext a0 a1 h) := Ct_of (by decide +kernel) rfl rfl rfl (Nat.le_of_ble_eq_true rfl) rfl (pX4_hullNext_e a0 a1 h)
def fX4_copyOf   (a0 : Nat) (a1 : Nat) (h : xH) : Option (Unit × xH) :=
  if kc h a1 = 4 then
  if kc h a0 = 4 then
  bd (fX4_makeRoom a0 (hI h a1 0) h) (fun _ g3 =>
  lt (sI g3 a0 0 (hI g3 a1 0)) (fun g7 =>
  if cpOk 9 g7 (hR g7 a1 1) (hR g7 a0 1) (0 : Int32) (0 : Int32) (hI g7 a0 0) then
  lt (cpJ g7 (hR g7 a1 1) (0 : Int32).toNatClampNeg (hR g7 a0 1) (0 : Int32).toNatClampNeg (hI g7 a0 0).toNatClampNeg) (fun g12 =>
  if cpOk 9 g12 (hR g12 a1 2) (hR g12 a0 2) (0 : Int32) (0 : Int32) (hI g12 a0 0) then
  lt (cpJ g12 (hR g12 a1 2) (0 : Int32).toNatClampNeg (hR g12 a0 2) (0 : Int32).toNatClampNeg (hI g12 a0 0).toNatClampNeg) (fun g17 =>
  if cpOk 9 g17 (hR g17 a1 3) (hR g17 a0 3) (0 : Int32) (0 : Int32) (hI g17 a0 0) then
  lt (cpJ g17 (hR g17 a1 3) (0 : Int32).toNatClampNeg (hR g17 a0 3) (0 : Int32).toNatClampNeg (hI g17 a0 0).toNatClampNeg) (fun g22 =>
  if cpOk 9 g22 (hR g22 a1 4) (hR g22 a0 4) (0 : Int32) (0 : Int32) (hI g22 a0 0) then
  lt (cpJ g22 (hR g22 a1 4) (0 : Int32).toNatClampNeg (hR g22 a0 4) (0 : Int32).toNatClampNeg (hI g22 a0 0).toNatClampNeg) (fun g27 =>
  if cpOk 8 g27 (hR g27 a1 5) (hR g27 a0 5) (0 : Int32) (0 : Int32) (hI g27 a0 0) then
  lt (cpI g27 (hR g27 a1 5) (0 : Int32).toNatClampNeg (hR g27 a0 5) (0 : Int32).toNatClampNeg (hI g27 a0 0).toNatClampNeg) (fun g32 =>
  some ((), g32))
  else none)
  else none)
  else none)
  else none)
  else none))
  else none
  else none
theorem pX4_copyOf_e    (a0 : Nat) (a1 : Nat) (h : xH) : S emV kX4_copyOf h 0 [(0, .ref a0), (1, .ref a1)] [] h (fX4_copyOf  a0 a1 h) := by
  unfold fX4_copyOf
  refine s_aload_n (pc := 0) (k0 := 0) (i := 0) rfl 0 rfl (by decide +kernel) ?_
  refine s_aload_n (pc := 1) (k0 := 1) (i := 1) rfl 1 rfl (by decide +kernel) ?_
  refine S_gd (fun c1 => ?_)
  refine s_getI (pc := 2) (k := 0) c1 ft_X4_9 rfl (by decide +kernel) ?_
  refine S_gd (fun c2 => ?_)
  refine s_cVv (pc := 5) [.int (hI h a1 0)] (tX4_makeRoom a0 (hI h a1 0) h) c2 cw_X4_38 rfl ⟨⟨Nat.le_of_ble_eq_true rfl, Nat.le_of_ble_eq_true rfl⟩, Nat.le_of_ble_eq_true rfl⟩ rfl (by decide +kernel) (fun _ g3 e4 => ?_)
  refine s_aload_n (pc := 8) (k0 := 0) (i := 0) rfl 0 rfl (by decide +kernel) ?_
  refine s_aload_n (pc := 9) (k0 := 1) (i := 1) rfl 1 rfl (by decide +kernel) ?_
  have c5 := kp e4 c1 (by decide)
  refine s_getI (pc := 10) (k := 0) c5 ft_X4_9 rfl (by decide +kernel) ?_
  have c6 := kp e4 c2 (by decide)
  refine s_putI (pc := 13) (k := 0) c6 ft_X4_9 (fw_4_0 _ _) rfl rfl (by decide +kernel) ?_
  refine s_nmH (o := g3) rfl (fun g7 e8 => ?_)
  refine s_aload_n (pc := 16) (k0 := 1) (i := 1) rfl 1 rfl (by decide +kernel) ?_
  have c9 := kp e8 c5 (by decide)
  refine s_getR (pc := 17) (k := 1) c9 ft_X4_15 rfl (by decide +kernel) ?_
  refine s_iconst (pc := 20) (n := 0) (v := (0 : Int32)) (by decide) (by decide +kernel) ?_
  refine s_aload_n (pc := 21) (k0 := 0) (i := 0) rfl 0 rfl (by decide +kernel) ?_
  have c10 := kp e8 c6 (by decide)
  refine s_getR (pc := 22) (k := 1) c10 ft_X4_15 rfl (by decide +kernel) ?_
  refine s_iconst (pc := 25) (n := 0) (v := (0 : Int32)) (by decide) (by decide +kernel) ?_
  refine s_aload_n (pc := 26) (k0 := 0) (i := 0) rfl 0 rfl (by decide +kernel) ?_
  refine s_getI (pc := 27) (k := 0) c10 ft_X4_9 rfl (by decide +kernel) ?_
  refine S_gd (fun c11 => ?_)
  refine s_copyJ (pc := 30) (index := 57) c11 ml_X4_57 ac_1 ac_2 ac_3 ⟨by decide, Nat.le_of_ble_eq_true rfl⟩ (by decide +kernel) ?_
  refine s_nmH (o := g7) rfl (fun g12 e13 => ?_)
  refine s_aload_n (pc := 33) (k0 := 1) (i := 1) rfl 1 rfl (by decide +kernel) ?_
  have c14 := kp e13 c9 (by decide)
  refine s_getR (pc := 34) (k := 2) c14 ft_X4_19 rfl (by decide +kernel) ?_
  refine s_iconst (pc := 37) (n := 0) (v := (0 : Int32)) (by decide) (by decide +kernel) ?_
  refine s_aload_n (pc := 38) (k0 := 0) (i := 0) rfl 0 rfl (by decide +kernel) ?_
  have c15 := kp e13 c10 (by decide)
  refine s_getR (pc := 39) (k := 2) c15 ft_X4_19 rfl (by decide +kernel) ?_
  refine s_iconst (pc := 42) (n := 0) (v := (0 : Int32)) (by decide) (by decide +kernel) ?_
  refine s_aload_n (pc := 43) (k0 := 0) (i := 0) rfl 0 rfl (by decide +kernel) ?_
  refine s_getI (pc := 44) (k := 0) c15 ft_X4_9 rfl (by decide +kernel) ?_
  refine S_gd (fun c16 => ?_)
  refine s_copyJ (pc := 47) (index := 57) c16 ml_X4_57 ac_1 ac_2 ac_3 ⟨by decide, Nat.le_of_ble_eq_true rfl⟩ (by decide +kernel) ?_
  refine s_nmH (o := g12) rfl (fun g17 e18 => ?_)
  refine s_aload_n (pc := 50) (k0 := 1) (i := 1) rfl 1 rfl (by decide +kernel) ?_
  have c19 := kp e18 c14 (by decide)
  refine s_getR (pc := 51) (k := 3) c19 ft_X4_22 rfl (by decide +kernel) ?_
  refine s_iconst (pc := 54) (n := 0) (v := (0 : Int32)) (by decide) (by decide +kernel) ?_
  refine s_aload_n (pc := 55) (k0 := 0) (i := 0) rfl 0 rfl (by decide +kernel) ?_
  have c20 := kp e18 c15 (by decide)
  refine s_getR (pc := 56) (k := 3) c20 ft_X4_22 rfl (by decide +kernel) ?_
  refine s_iconst (pc := 59) (n := 0) (v := (0 : Int32)) (by decide) (by decide +kernel) ?_
  refine s_aload_n (pc := 60) (k0 := 0) (i := 0) rfl 0 rfl (by decide +kernel) ?_
  refine s_getI (pc := 61) (k := 0) c20 ft_X4_9 rfl (by decide +kernel) ?_
  refine S_gd (fun c21 => ?_)
  refine s_copyJ (pc := 64) (index := 57) c21 ml_X4_57 ac_1 ac_2 ac_3 ⟨by decide, Nat.le_of_ble_eq_true rfl⟩ (by decide +kernel) ?_
  refine s_nmH (o := g17) rfl (fun g22 e23 => ?_)
  refine s_aload_n (pc := 67) (k0 := 1) (i := 1) rfl 1 rfl (by decide +kernel) ?_
  have c24 := kp e23 c19 (by decide)
  refine s_getR (pc := 68) (k := 4) c24 ft_X4_25 rfl (by decide +kernel) ?_
  refine s_iconst (pc := 71) (n := 0) (v := (0 : Int32)) (by decide) (by decide +kernel) ?_
  refine s_aload_n (pc := 72) (k0 := 0) (i := 0) rfl 0 rfl (by decide +kernel) ?_
  have c25 := kp e23 c20 (by decide)
  refine s_getR (pc := 73) (k := 4) c25 ft_X4_25 rfl (by decide +kernel) ?_
  refine s_iconst (pc := 76) (n := 0) (v := (0 : Int32)) (by decide) (by decide +kernel) ?_
  refine s_aload_n (pc := 77) (k0 := 0) (i := 0) rfl 0 rfl (by decide +kernel) ?_
  refine s_getI (pc := 78) (k := 0) c25 ft_X4_9 rfl (by decide +kernel) ?_
  refine S_gd (fun c26 => ?_)
  refine s_copyJ (pc := 81) (index := 57) c26 ml_X4_57 ac_1 ac_2 ac_3 ⟨by decide, Nat.le_of_ble_eq_true rfl⟩ (by decide +kernel) ?_
  refine s_nmH (o := g22) rfl (fun g27 e28 => ?_)
  refine s_aload_n (pc := 84) (k0 := 1) (i := 1) rfl 1 rfl (by decide +kernel) ?_
  have c29 := kp e28 c24 (by decide)
  refine s_getR (pc := 85) (k := 5) c29 ft_X4_28 rfl (by decide +kernel) ?_
  refine s_iconst (pc := 88) (n := 0) (v := (0 : Int32)) (by decide) (by decide +kernel) ?_
  refine s_aload_n (pc := 89) (k0 := 0) (i := 0) rfl 0 rfl (by decide +kernel) ?_
  have c30 := kp e28 c25 (by decide)
  refine s_getR (pc := 90) (k := 5) c30 ft_X4_28 rfl (by decide +kernel) ?_
  refine s_iconst (pc := 93) (n := 0) (v := (0 : Int32)) (by decide) (by decide +kernel) ?_
  refine s_aload_n (pc := 94) (k0 := 0) (i := 0) rfl 0 rfl (by decide +kernel) ?_
  refine s_getI (pc := 95) (k := 0) c30 ft_X4_9 rfl (by decide +kernel) ?_
  refine S_gd (fun c31 => ?_)
  refine s_copyI (pc := 98) (index := 57) c31 ml_X4_57 ac_1 ac_2 ac_3 ⟨by decide, Nat.le_of_ble_eq_true rfl⟩ (by decide +kernel) ?_
  refine s_nmH (o := g27) rfl (fun g32 e33 => ?_)
  exact s_vret (pc := 101) rfl (by decide +kernel)
theorem tX4_copyOf (a0 : Nat) (a1 : Nat) (h : xH) : Ct yX4_copyOf kX4_copyOf emV [.ref a0, .ref a1] h (fX4_copyOf a0 a1 h) := Ct_of (by decide +kernel) rfl rfl rfl (Nat.le_of_ble_eq_true rfl) rfl (pX4_copyOf_e a0 a1 h)
def fX4_fitsStore_b13 (r13 : Nat → Int32 → xH → Option (Int32 × xH))  (a0 : Nat) (a1 : Int32) (h : xH) : Option (Int32 × xH) :=
  if kc h a0 = 4 then
  if (hI h a0 0) ≤ a1 then (
  some ((1 : Int32), h))
  else (
  if kc h (hR h a0 2) = 9 then
  if ix a1 (kl h (hR h a0 2)) then
  if (lg_cmp (hJ h (hR h a0 2) a1.toNatClampNeg) (1 : Int64)) = 0 then (
  if kc h (hR h a0 4) = 9 then
  if ix a1 (kl h (hR h a0 4)) then
  if (lg_cmp (hJ h (hR h a0 4) a1.toNatClampNeg) (1 : Int64)) = 0 then (
  if kc h (hR h a0 1) = 9 then
  if ix a1 (kl h (hR h a0 1)) then
  bd (fX6_isPlace (hJ h (hR h a0 1) a1.toNatClampNeg) h) (fun w10 g8 =>
  if w10 = 0 then (
  some ((0 : Int32), g8))
  else (
  if kc g8 (hR g8 a0 3) = 9 then
  if ix a1 (kl g8 (hR g8 a0 3)) then
  bd (fX6_isPlace (hJ g8 (hR g8 a0 3) a1.toNatClampNeg) g8) (fun w16 g14 =>
  if w16 = 0 then (
  some ((0 : Int32), g14))
  else (
  lt (a1 + (1 : Int32)) (fun v17 =>
  r13 a0 v17 g14)))
  else none
  else none))
  else none
  else none)
  else (
  some ((0 : Int32), h))
  else none
  else none)
  else (
  some ((0 : Int32), h))
  else none
  else none)
  else none
def fX4_fitsStore_l13  : Nat → Nat → Int32 → xH → Option (Int32 × xH)
  | 0 => fun _ _ _ => none
  | k + 1 => fX4_fitsStore_b13 (fX4_fitsStore_l13  k)
def fX4_fitsStore   (a0 : Nat) (h : xH) : Option (Int32 × xH) :=
  if kc h a0 = 4 then
  if (hI h a0 0) ≤ (12 : Int32) then (
  lt (0 : Int32) (fun v2 =>
  fX4_fitsStore_l13 FU a0 v2 h))
  else (
  some ((0 : Int32), h))
  else none
theorem pX4_fitsStore_b13 {h0 : xH} {r13 : Nat → Int32 → xH → Option (Int32 × xH)} (hr13 : ∀  (a0 : Nat) (a1 : Int32) (g : xH), S emI kX4_fitsStore h0 13 [(0, .ref a0), (1, .int a1)] [] g (r13  a0 a1 g))  (a0 : Nat) (a1 : Int32) (h : xH) : S emI kX4_fitsStore h0 13 [(0, .ref a0), (1, .int a1)] [] h (fX4_fitsStore_b13 r13 a0 a1 h) := by
  unfold fX4_fitsStore_b13
  refine s_iload_n (pc := 13) (k0 := 1) (i := 1) rfl 1 rfl (by decide +kernel) ?_
  refine s_aload_n (pc := 14) (k0 := 0) (i := 0) rfl 0 rfl (by decide +kernel) ?_
  refine S_gd (fun c1 => ?_)
  refine s_getI (pc := 15) (k := 0) c1 ft_X4_9 rfl (by decide +kernel) ?_
  refine s_icmp_ge (pc := 18) (off := 57) 75 (by decide +kernel) (by decide) (fun _ => ?_) (fun _ => ?_)
  · refine s_iconst (pc := 75) (n := 1) (v := (1 : Int32)) (by decide) (by decide +kernel) ?_
    exact s_zret (pc := 76) (by decide) rfl (by decide +kernel)
  · refine s_aload_n (pc := 21) (k0 := 0) (i := 0) rfl 0 rfl (by decide +kernel) ?_
    refine s_getR (pc := 22) (k := 2) c1 ft_X4_19 rfl (by decide +kernel) ?_
    refine s_iload_n (pc := 25) (k0 := 1) (i := 1) rfl 1 rfl (by decide +kernel) ?_
    refine S_gd (fun c2 => ?_)
    refine S_gd (fun c3 => ?_)
    refine s_lald (pc := 26) c2 c3 (by decide +kernel) ?_
    refine s_lconst (pc := 27) (n := 1) (v := (1 : Int64)) (by decide) (by decide +kernel) ?_
    refine s_lcmp (pc := 28) (by decide +kernel) ?_
    refine s_if_ne (pc := 29) (off := 38) 67 (by decide +kernel) (by decide) (fun _ => ?_) (fun _ => ?_)
    · refine s_aload_n (pc := 32) (k0 := 0) (i := 0) rfl 0 rfl (by decide +kernel) ?_
      refine s_getR (pc := 33) (k := 4) c1 ft_X4_25 rfl (by decide +kernel) ?_
      refine s_iload_n (pc := 36) (k0 := 1) (i := 1) rfl 1 rfl (by decide +kernel) ?_
      refine S_gd (fun c4 => ?_)
      refine S_gd (fun c5 => ?_)
      refine s_lald (pc := 37) c4 c5 (by decide +kernel) ?_
      refine s_lconst (pc := 38) (n := 1) (v := (1 : Int64)) (by decide) (by decide +kernel) ?_
      refine s_lcmp (pc := 39) (by decide +kernel) ?_
      refine s_if_ne (pc := 40) (off := 27) 67 (by decide +kernel) (by decide) (fun _ => ?_) (fun _ => ?_)
      · refine s_aload_n (pc := 43) (k0 := 0) (i := 0) rfl 0 rfl (by decide +kernel) ?_
        refine s_getR (pc := 44) (k := 1) c1 ft_X4_15 rfl (by decide +kernel) ?_
        refine s_iload_n (pc := 47) (k0 := 1) (i := 1) rfl 1 rfl (by decide +kernel) ?_
        refine S_gd (fun c6 => ?_)
        refine S_gd (fun c7 => ?_)
        refine s_lald (pc := 48) c6 c7 (by decide +kernel) ?_
        refine s_cNi (pc := 49) [.long (hJ h (hR h a0 1) a1.toNatClampNeg)] (tX6_isPlace (hJ h (hR h a0 1) a1.toNatClampNeg) h) cw_X4_63 (mws_X6_isPlace) rfl ⟨⟨Nat.le_of_ble_eq_true rfl, Nat.le_of_ble_eq_true rfl⟩, Nat.le_of_ble_eq_true rfl⟩ rfl (by decide +kernel) (fun w10 g8 e9 => ?_)
        refine s_if_eq (pc := 52) (off := 15) 67 (by decide +kernel) (by decide) (fun _ => ?_) (fun _ => ?_)
        · refine s_iconst (pc := 67) (n := 0) (v := (0 : Int32)) (by decide) (by decide +kernel) ?_
          exact s_zret (pc := 68) (by decide) rfl (by decide +kernel)
        · refine s_aload_n (pc := 55) (k0 := 0) (i := 0) rfl 0 rfl (by decide +kernel) ?_
          have c11 := kp e9 c1 (by decide)
          refine s_getR (pc := 56) (k := 3) c11 ft_X4_22 rfl (by decide +kernel) ?_
          refine s_iload_n (pc := 59) (k0 := 1) (i := 1) rfl 1 rfl (by decide +kernel) ?_
          refine S_gd (fun c12 => ?_)
          refine S_gd (fun c13 => ?_)
          refine s_lald (pc := 60) c12 c13 (by decide +kernel) ?_
          refine s_cNi (pc := 61) [.long (hJ g8 (hR g8 a0 3) a1.toNatClampNeg)] (tX6_isPlace (hJ g8 (hR g8 a0 3) a1.toNatClampNeg) g8) cw_X4_63 (mws_X6_isPlace) rfl ⟨⟨Nat.le_of_ble_eq_true rfl, Nat.le_of_ble_eq_true rfl⟩, Nat.le_of_ble_eq_true rfl⟩ rfl (by decide +kernel) (fun w16 g14 e15 => ?_)
          refine s_if_ne (pc := 64) (off := 5) 69 (by decide +kernel) (by decide) (fun _ => ?_) (fun _ => ?_)
          · refine s_iconst (pc := 67) (n := 0) (v := (0 : Int32)) (by decide) (by decide +kernel) ?_
            exact s_zret (pc := 68) (by decide) rfl (by decide +kernel)
          · refine s_iinc (pc := 69) (L' := [(1, .int (a1 + (1 : Int32))), (0, .ref a0)]) (i := 1) (n := 1) 1 rfl rfl (by decide) rfl (by decide +kernel) ?_
            refine s_nmI0 (e := a1 + (1 : Int32)) (L := fun v17 => [(1, .int v17), (0, .ref a0)]) (fun v17 => ?_)
            refine s_goto (pc := 72) (off := -59) 13 (by decide +kernel) (by decide) ?_
            refine S_sub [1, 0] rfl ?_
            exact hr13 a0 v17 g14
      · refine s_iconst (pc := 67) (n := 0) (v := (0 : Int32)) (by decide) (by decide +kernel) ?_
        exact s_zret (pc := 68) (by decide) rfl (by decide +kernel)
    · refine s_iconst (pc := 67) (n := 0) (v := (0 : Int32)) (by decide) (by decide +kernel) ?_
      exact s_zret (pc := 68) (by decide) rfl (by decide +kernel)
theorem pX4_fitsStore_l13 {h0 : xH}   : ∀ (k : Nat)  (a0 : Nat) (a1 : Int32) (h : xH), S emI kX4_fitsStore h0 13 [(0, .ref a0), (1, .int a1)] [] h (fX4_fitsStore_l13  k  a0 a1 h) := by
  intro k
  induction k with
  | zero => intros; exact S_none
  | succ k ih => intro  a0 a1 h; exact pX4_fitsStore_b13 ih  a0 a1 h
theorem pX4_fitsStore_e    (a0 : Nat) (h : xH) : S emI kX4_fitsStore h 0 [(0, .ref a0)] [] h (fX4_fitsStore  a0 h) := by
  unfold fX4_fitsStore
  refine s_aload_n (pc := 0) (k0 := 0) (i := 0) rfl 0 rfl (by decide +kernel) ?_
  refine S_gd (fun c1 => ?_)
  refine s_getI (pc := 1) (k := 0) c1 ft_X4_9 rfl (by decide +kernel) ?_
  refine s_bipush (pc := 4) (n := 12) (v := (12 : Int32)) (by decide) (by decide +kernel) ?_
  refine s_icmp_le (pc := 6) (off := 5) 11 (by decide +kernel) (by decide) (fun _ => ?_) (fun _ => ?_)
  · refine s_iconst (pc := 11) (n := 0) (v := (0 : Int32)) (by decide) (by decide +kernel) ?_
    refine s_nmI (fun v2 => ?_)
    refine s_istore_n (pc := 12) (L' := [(1, .int v2), (0, .ref a0)]) (k0 := 1) (i := 1) rfl (by decide) rfl (by decide +kernel) ?_
    refine S_sub [1, 0] rfl ?_
    exact pX4_fitsStore_l13 FU a0 v2 h
  · refine s_iconst (pc := 9) (n := 0) (v := (0 : Int32)) (by decide) (by decide +kernel) ?_
    exact s_zret (pc := 10) (by decide) rfl (by decide +kernel)
theorem tX4_fitsStore (a0 : Nat) (h : xH) : Ct yX4_fitsStore kX4_fitsStore emI [.ref a0] h (fX4_fitsStore a0 h) := Ct_of (by decide +kernel) rfl rfl rfl (Nat.le_of_ble_eq_true rfl) rfl (pX4_fitsStore_e a0 h)
def fX4_xAt   (a0 : Nat) (a1 : Int32) (h : xH) : Option (Int32 × xH) :=
  if kc h a0 = 4 then
  if kc h (hR h a0 1) = 9 then
  if ix a1 (kl h (hR h a0 1)) then
  some (((hJ h (hR h a0 1) a1.toNatClampNeg).toInt32), h)
  else none
  else none
  else none
theorem pX4_xAt_e    (a0 : Nat) (a1 : Int32) (h : xH) : S emI kX4_xAt h 0 [(0, .ref a0), (1, .int a1)] [] h (fX4_xAt  a0 a1 h) := by
  unfold fX4_xAt
  refine s_aload_n (pc := 0) (k0 := 0) (i := 0) rfl 0 rfl (by decide +kernel) ?_
  refine S_gd (fun c1 => ?_)
  refine s_getR (pc := 1) (k := 1) c1 ft_X4_15 rfl (by decide +kernel) ?_
  refine s_iload_n (pc := 4) (k0 := 1) (i := 1) rfl 1 rfl (by decide +kernel) ?_
  refine S_gd (fun c2 => ?_)
  refine S_gd (fun c3 => ?_)
  refine s_lald (pc := 5) c2 c3 (by decide +kernel) ?_
  refine s_l2i (pc := 6) (by decide +kernel) ?_
  exact s_iret (pc := 7) rfl (by decide +kernel)
theorem tX4_xAt (a0 : Nat) (a1 : Int32) (h : xH) : Ct yX4_xAt kX4_xAt emI [.ref a0, .int a1] h (fX4_xAt a0 a1 h) := Ct_of (by decide +kernel) rfl rfl rfl (Nat.le_of_ble_eq_true rfl) rfl (pX4_xAt_e a0 a1 h)
def fX4_yAt   (a0 : Nat) (a1 : Int32) (h : xH) : Option (Int32 × xH) :=
  if kc h a0 = 4 then
  if kc h (hR h a0 3) = 9 then
  if ix a1 (kl h (hR h a0 3)) then
  some (((hJ h (hR h a0 3) a1.toNatClampNeg).toInt32), h)
  else none
  else none
  else none
theorem pX4_yAt_e    (a0 : Nat) (a1 : Int32) (h : xH) : S emI kX4_yAt h 0 [(0, .ref a0), (1, .int a1)] [] h (fX4_yAt  a0 a1 h) := by
  unfold fX4_yAt
  refine s_aload_n (pc := 0) (k0 := 0) (i := 0) rfl 0 rfl (by decide +kernel) ?_
  refine S_gd (fun c1 => ?_)
  refine s_getR (pc := 1) (k := 3) c1 ft_X4_22 rfl (by decide +kernel) ?_
  refine s_iload_n (pc := 4) (k0 := 1) (i := 1) rfl 1 rfl (by decide +kernel) ?_
  refine S_gd (fun c2 => ?_)
  refine S_gd (fun c3 => ?_)
  refine s_lald (pc := 5) c2 c3 (by decide +kernel) ?_
  refine s_l2i (pc := 6) (by decide +kernel) ?_
  exact s_iret (pc := 7) rfl (by decide +kernel)
theorem tX4_yAt (a0 : Nat) (a1 : Int32) (h : xH) : Ct yX4_yAt kX4_yAt emI [.ref a0, .int a1] h (fX4_yAt a0 a1 h) := Ct_of (by decide +kernel) rfl rfl rfl (Nat.le_of_ble_eq_true rfl) rfl (pX4_yAt_e a0 a1 h)
def fX4_alongLine   (a0 : Nat) (a1 : Int32) (a2 : Int32) (a3 : Nat) (h : xH) : Option (Unit × xH) :=
  if kc h a0 = 4 then
  bd (fX4_runOf a0 a1 h) (fun w4 g2 =>
  if kc g2 (hR g2 a0 3) = 9 then
  if ix a1 (kl g2 (hR g2 a0 3)) then
  bd (fX4_riseOf a0 a1 g2) (fun w10 g8 =>
  if kc g8 (hR g8 a0 1) = 9 then
  if ix a1 (kl g8 (hR g8 a0 1)) then
  if kc g8 a3 = 2 then
  bd (fX2_assign a3 (((hJ g2 (hR g2 a0 3) a1.toNatClampNeg) * w4) + (w10 * (a2.toInt64 - (hJ g8 (hR g8 a0 1) a1.toNatClampNeg)))) w4 g8) (fun _ g15 =>
  some ((), g15))
  else none
  else none
  else none)
  else none
  else none)
  else none
theorem pX4_alongLine_e    (a0 : Nat) (a1 : Int32) (a2 : Int32) (a3 : Nat) (h : xH) : S emV kX4_alongLine h 0 [(0, .ref a0), (1, .int a1), (2, .int a2), (3, .ref a3)] [] h (fX4_alongLine  a0 a1 a2 a3 h) := by
  unfold fX4_alongLine
  refine s_aload_n (pc := 0) (k0 := 0) (i := 0) rfl 0 rfl (by decide +kernel) ?_
  refine s_iload_n (pc := 1) (k0 := 1) (i := 1) rfl 1 rfl (by decide +kernel) ?_
  refine S_gd (fun c1 => ?_)
  refine s_cVj (pc := 2) [.int a1] (tX4_runOf a0 a1 h) c1 cw_X4_71 rfl ⟨⟨Nat.le_of_ble_eq_true rfl, Nat.le_of_ble_eq_true rfl⟩, Nat.le_of_ble_eq_true rfl⟩ rfl (by decide +kernel) (fun w4 g2 e3 => ?_)
  refine s_lstore (pc := 5) (L' := [(4, .long w4), (0, .ref a0), (1, .int a1), (2, .int a2), (3, .ref a3)]) (i := 4) (by decide) rfl (by decide +kernel) ?_
  refine s_aload_n (pc := 7) (k0 := 3) (i := 3) rfl 4 rfl (by decide +kernel) ?_
  refine s_aload_n (pc := 8) (k0 := 0) (i := 0) rfl 1 rfl (by decide +kernel) ?_
  have c5 := kp e3 c1 (by decide)
  refine s_getR (pc := 9) (k := 3) c5 ft_X4_22 rfl (by decide +kernel) ?_
  refine s_iload_n (pc := 12) (k0 := 1) (i := 1) rfl 2 rfl (by decide +kernel) ?_
  refine S_gd (fun c6 => ?_)
  refine S_gd (fun c7 => ?_)
  refine s_lald (pc := 13) c6 c7 (by decide +kernel) ?_
  refine s_lload (pc := 14) (i := 4) 0 rfl (by decide +kernel) ?_
  refine s_lmul (pc := 16) (by decide +kernel) ?_
  refine s_aload_n (pc := 17) (k0 := 0) (i := 0) rfl 1 rfl (by decide +kernel) ?_
  refine s_iload_n (pc := 18) (k0 := 1) (i := 1) rfl 2 rfl (by decide +kernel) ?_
  refine s_cVj (pc := 19) [.int a1] (tX4_riseOf a0 a1 g2) c5 cw_X4_75 rfl ⟨⟨Nat.le_of_ble_eq_true rfl, Nat.le_of_ble_eq_true rfl⟩, Nat.le_of_ble_eq_true rfl⟩ rfl (by decide +kernel) (fun w10 g8 e9 => ?_)
  refine s_iload_n (pc := 22) (k0 := 2) (i := 2) rfl 3 rfl (by decide +kernel) ?_
  refine s_i2l (pc := 23) (by decide +kernel) ?_
  refine s_aload_n (pc := 24) (k0 := 0) (i := 0) rfl 1 rfl (by decide +kernel) ?_
  have c11 := kp e9 c5 (by decide)
  refine s_getR (pc := 25) (k := 1) c11 ft_X4_15 rfl (by decide +kernel) ?_
  refine s_iload_n (pc := 28) (k0 := 1) (i := 1) rfl 2 rfl (by decide +kernel) ?_
  refine S_gd (fun c12 => ?_)
  refine S_gd (fun c13 => ?_)
  refine s_lald (pc := 29) c12 c13 (by decide +kernel) ?_
  refine s_lsub (pc := 30) (by decide +kernel) ?_
  refine s_lmul (pc := 31) (by decide +kernel) ?_
  refine s_ladd (pc := 32) (by decide +kernel) ?_
  refine s_lload (pc := 33) (i := 4) 0 rfl (by decide +kernel) ?_
  refine S_gd (fun c14 => ?_)
  refine s_cVv (pc := 35) [.long (((hJ g2 (hR g2 a0 3) a1.toNatClampNeg) * w4) + (w10 * (a2.toInt64 - (hJ g8 (hR g8 a0 1) a1.toNatClampNeg)))), .long w4] (tX2_assign a3 (((hJ g2 (hR g2 a0 3) a1.toNatClampNeg) * w4) + (w10 * (a2.toInt64 - (hJ g8 (hR g8 a0 1) a1.toNatClampNeg)))) w4 g8) c14 cw_X4_78 rfl ⟨⟨Nat.le_of_ble_eq_true rfl, Nat.le_of_ble_eq_true rfl⟩, Nat.le_of_ble_eq_true rfl⟩ rfl (by decide +kernel) (fun _ g15 e16 => ?_)
  exact s_vret (pc := 38) rfl (by decide +kernel)
theorem tX4_alongLine (a0 : Nat) (a1 : Int32) (a2 : Int32) (a3 : Nat) (h : xH) : Ct yX4_alongLine kX4_alongLine emV [.ref a0, .int a1, .int a2, .ref a3] h (fX4_alongLine a0 a1 a2 a3 h) := Ct_of (by decide +kernel) rfl rfl rfl (Nat.le_of_ble_eq_true rfl) rfl (pX4_alongLine_e a0 a1 a2 a3 h)
def fX4_valueAt_b123   (a0 : Nat) (a2 : Nat) (a3 : Int32) (h : xH) : Option (Unit × xH) :=
  if a3 < 0 then (
  some ((), h))
  else (
  if kc h a0 = 4 then
  if kc h (hR h a0 3) = 9 then
  if ix a3 (kl h (hR h a0 3)) then
  if kc h a2 = 2 then
  bd (fX2_assign a2 (hJ h (hR h a0 3) a3.toNatClampNeg) (1 : Int64) h) (fun _ g5 =>
  some ((), g5))
  else none
  else none
  else none
  else none)
def fX4_valueAt_b117 (r9 : Nat → Int32 → Nat → Int32 → Int32 → xH → Option (Unit × xH))  (a0 : Nat) (a1 : Int32) (a2 : Nat) (a3 : Int32) (a4 : Int32) (h : xH) : Option (Unit × xH) :=
  lt (a4 + (1 : Int32)) (fun v1 =>
  r9 a0 a1 a2 a3 v1 h)
def fX4_valueAt_b71 (r9 : Nat → Int32 → Nat → Int32 → Int32 → xH → Option (Unit × xH))  (a0 : Nat) (a1 : Int32) (a2 : Nat) (a3 : Int32) (a4 : Int32) (h : xH) : Option (Unit × xH) :=
  if kc h a0 = 4 then
  bd (fX4_hasLine a0 a4 h) (fun w4 g2 =>
  if w4 = 0 then (
  fX4_valueAt_b117 r9 a0 a1 a2 a3 a4 g2)
  else (
  if kc g2 (hR g2 a0 1) = 9 then
  if ix a4 (kl g2 (hR g2 a0 1)) then
  if 0 ≤ (lg_cmp (hJ g2 (hR g2 a0 1) a4.toNatClampNeg) a1.toInt64) then (
  fX4_valueAt_b117 r9 a0 a1 a2 a3 a4 g2)
  else (
  if ix (a4 + (1 : Int32)) (kl g2 (hR g2 a0 1)) then
  if 0 ≤ (lg_cmp a1.toInt64 (hJ g2 (hR g2 a0 1) (a4 + (1 : Int32)).toNatClampNeg)) then (
  fX4_valueAt_b117 r9 a0 a1 a2 a3 a4 g2)
  else (
  bd (fX4_alongLine a0 a4 a1 a2 g2) (fun _ g9 =>
  some ((), g9)))
  else none)
  else none
  else none))
  else none
def fX4_valueAt_b65 (r9 : Nat → Int32 → Nat → Int32 → Int32 → xH → Option (Unit × xH))  (a0 : Nat) (a1 : Int32) (a2 : Nat) (a4 : Int32) (h : xH) : Option (Unit × xH) :=
  fX4_valueAt_b117 r9 a0 a1 a2 a4 a4 h
def fX4_valueAt_b9 (r9 : Nat → Int32 → Nat → Int32 → Int32 → xH → Option (Unit × xH))  (a0 : Nat) (a1 : Int32) (a2 : Nat) (a3 : Int32) (a4 : Int32) (h : xH) : Option (Unit × xH) :=
  if kc h a0 = 4 then
  if (hI h a0 0) ≤ a4 then (
  fX4_valueAt_b123 a0 a2 a3 h)
  else (
  if kc h (hR h a0 1) = 9 then
  if ix a4 (kl h (hR h a0 1)) then
  if 0 < (lg_cmp (hJ h (hR h a0 1) a4.toNatClampNeg) a1.toInt64) then (
  fX4_valueAt_b123 a0 a2 a3 h)
  else (
  if (lg_cmp (hJ h (hR h a0 1) a4.toNatClampNeg) a1.toInt64) = 0 then (
  if a3 < 0 then (
  fX4_valueAt_b65 r9 a0 a1 a2 a4 h)
  else (
  if kc h (hR h a0 3) = 9 then
  if ix a4 (kl h (hR h a0 3)) then
  if ix a3 (kl h (hR h a0 3)) then
  if 0 ≤ (lg_cmp (hJ h (hR h a0 3) a4.toNatClampNeg) (hJ h (hR h a0 3) a3.toNatClampNeg)) then (
  fX4_valueAt_b71 r9 a0 a1 a2 a3 a4 h)
  else (
  fX4_valueAt_b65 r9 a0 a1 a2 a4 h)
  else none
  else none
  else none))
  else (
  fX4_valueAt_b71 r9 a0 a1 a2 a3 a4 h))
  else none
  else none)
  else none
def fX4_valueAt_l9  : Nat → Nat → Int32 → Nat → Int32 → Int32 → xH → Option (Unit × xH)
  | 0 => fun _ _ _ _ _ _ => none
  | k + 1 => fX4_valueAt_b9 (fX4_valueAt_l9  k)
def fX4_valueAt   (a0 : Nat) (a1 : Int32) (a2 : Nat) (h : xH) : Option (Unit × xH) :=
  if kc h a2 = 2 then
  bd (fX2_forget a2 h) (fun _ g2 =>
  lt (-1 : Int32) (fun v4 =>
  lt (0 : Int32) (fun v5 =>
  fX4_valueAt_l9 FU a0 a1 a2 v4 v5 g2)))
  else none
theorem pX4_valueAt_b123 {h0 : xH}    (a0 : Nat) (a2 : Nat) (a3 : Int32) (h : xH) : S emV kX4_valueAt h0 123 [(0, .ref a0), (2, .ref a2), (3, .int a3)] [] h (fX4_valueAt_b123  a0 a2 a3 h) := by
  unfold fX4_valueAt_b123
  refine s_iload_n (pc := 123) (k0 := 3) (i := 3) rfl 2 rfl (by decide +kernel) ?_
  refine s_if_lt (pc := 124) (off := 14) 138 (by decide +kernel) (by decide) (fun _ => ?_) (fun _ => ?_)
  · exact s_vret (pc := 138) rfl (by decide +kernel)
  · refine s_aload_n (pc := 127) (k0 := 2) (i := 2) rfl 1 rfl (by decide +kernel) ?_
    refine s_aload_n (pc := 128) (k0 := 0) (i := 0) rfl 0 rfl (by decide +kernel) ?_
    refine S_gd (fun c1 => ?_)
    refine s_getR (pc := 129) (k := 3) c1 ft_X4_22 rfl (by decide +kernel) ?_
    refine s_iload_n (pc := 132) (k0 := 3) (i := 3) rfl 2 rfl (by decide +kernel) ?_
    refine S_gd (fun c2 => ?_)
    refine S_gd (fun c3 => ?_)
    refine s_lald (pc := 133) c2 c3 (by decide +kernel) ?_
    refine s_lconst (pc := 134) (n := 1) (v := (1 : Int64)) (by decide) (by decide +kernel) ?_
    refine S_gd (fun c4 => ?_)
    refine s_cVv (pc := 135) [.long (hJ h (hR h a0 3) a3.toNatClampNeg), .long (1 : Int64)] (tX2_assign a2 (hJ h (hR h a0 3) a3.toNatClampNeg) (1 : Int64) h) c4 cw_X4_78 rfl ⟨⟨Nat.le_of_ble_eq_true rfl, Nat.le_of_ble_eq_true rfl⟩, Nat.le_of_ble_eq_true rfl⟩ rfl (by decide +kernel) (fun _ g5 e6 => ?_)
    exact s_vret (pc := 138) rfl (by decide +kernel)
theorem pX4_valueAt_b117 {h0 : xH} {r9 : Nat → Int32 → Nat → Int32 → Int32 → xH → Option (Unit × xH)} (hr9 : ∀  (a0 : Nat) (a1 : Int32) (a2 : Nat) (a3 : Int32) (a4 : Int32) (g : xH), S emV kX4_valueAt h0 9 [(0, .ref a0), (1, .int a1), (2, .ref a2), (3, .int a3), (4, .int a4)] [] g (r9  a0 a1 a2 a3 a4 g))  (a0 : Nat) (a1 : Int32) (a2 : Nat) (a3 : Int32) (a4 : Int32) (h : xH) : S emV kX4_valueAt h0 117 [(0, .ref a0), (1, .int a1), (2, .ref a2), (3, .int a3), (4, .int a4)] [] h (fX4_valueAt_b117 r9 a0 a1 a2 a3 a4 h) := by
  unfold fX4_valueAt_b117
  refine s_iinc (pc := 117) (L' := [(4, .int (a4 + (1 : Int32))), (0, .ref a0), (1, .int a1), (2, .ref a2), (3, .int a3)]) (i := 4) (n := 1) 4 rfl rfl (by decide) rfl (by decide +kernel) ?_
  refine s_nmI0 (e := a4 + (1 : Int32)) (L := fun v1 => [(4, .int v1), (0, .ref a0), (1, .int a1), (2, .ref a2), (3, .int a3)]) (fun v1 => ?_)
  refine s_goto (pc := 120) (off := -111) 9 (by decide +kernel) (by decide) ?_
  refine S_sub [1, 2, 3, 4, 0] rfl ?_
  exact hr9 a0 a1 a2 a3 v1 h
theorem pX4_valueAt_b71 {h0 : xH} {r9 : Nat → Int32 → Nat → Int32 → Int32 → xH → Option (Unit × xH)} (hr9 : ∀  (a0 : Nat) (a1 : Int32) (a2 : Nat) (a3 : Int32) (a4 : Int32) (g : xH), S emV kX4_valueAt h0 9 [(0, .ref a0), (1, .int a1), (2, .ref a2), (3, .int a3), (4, .int a4)] [] g (r9  a0 a1 a2 a3 a4 g))  (a0 : Nat) (a1 : Int32) (a2 : Nat) (a3 : Int32) (a4 : Int32) (h : xH) : S emV kX4_valueAt h0 71 [(0, .ref a0), (1, .int a1), (2, .ref a2), (3, .int a3), (4, .int a4)] [] h (fX4_valueAt_b71 r9 a0 a1 a2 a3 a4 h) := by
  unfold fX4_valueAt_b71
  refine s_aload_n (pc := 71) (k0 := 0) (i := 0) rfl 0 rfl (by decide +kernel) ?_
  refine s_iload (pc := 72) (i := 4) 4 rfl (by decide +kernel) ?_
  refine S_gd (fun c1 => ?_)
  refine s_cVi (pc := 74) [.int a4] (tX4_hasLine a0 a4 h) c1 cw_X4_67 rfl ⟨⟨Nat.le_of_ble_eq_true rfl, Nat.le_of_ble_eq_true rfl⟩, Nat.le_of_ble_eq_true rfl⟩ rfl (by decide +kernel) (fun w4 g2 e3 => ?_)
  refine s_if_eq (pc := 77) (off := 40) 117 (by decide +kernel) (by decide) (fun _ => ?_) (fun _ => ?_)
  · exact pX4_valueAt_b117 hr9 a0 a1 a2 a3 a4 g2
  · refine s_aload_n (pc := 80) (k0 := 0) (i := 0) rfl 0 rfl (by decide +kernel) ?_
    have c5 := kp e3 c1 (by decide)
    refine s_getR (pc := 81) (k := 1) c5 ft_X4_15 rfl (by decide +kernel) ?_
    refine s_iload (pc := 84) (i := 4) 4 rfl (by decide +kernel) ?_
    refine S_gd (fun c6 => ?_)
    refine S_gd (fun c7 => ?_)
    refine s_lald (pc := 86) c6 c7 (by decide +kernel) ?_
    refine s_iload_n (pc := 87) (k0 := 1) (i := 1) rfl 1 rfl (by decide +kernel) ?_
    refine s_i2l (pc := 88) (by decide +kernel) ?_
    refine s_lcmp (pc := 89) (by decide +kernel) ?_
    refine s_if_ge (pc := 90) (off := 27) 117 (by decide +kernel) (by decide) (fun _ => ?_) (fun _ => ?_)
    · exact pX4_valueAt_b117 hr9 a0 a1 a2 a3 a4 g2
    · refine s_iload_n (pc := 93) (k0 := 1) (i := 1) rfl 1 rfl (by decide +kernel) ?_
      refine s_i2l (pc := 94) (by decide +kernel) ?_
      refine s_aload_n (pc := 95) (k0 := 0) (i := 0) rfl 0 rfl (by decide +kernel) ?_
      refine s_getR (pc := 96) (k := 1) c5 ft_X4_15 rfl (by decide +kernel) ?_
      refine s_iload (pc := 99) (i := 4) 4 rfl (by decide +kernel) ?_
      refine s_iconst (pc := 101) (n := 1) (v := (1 : Int32)) (by decide) (by decide +kernel) ?_
      refine s_iadd (pc := 102) (by decide +kernel) ?_
      refine S_gd (fun c8 => ?_)
      refine s_lald (pc := 103) c6 c8 (by decide +kernel) ?_
      refine s_lcmp (pc := 104) (by decide +kernel) ?_
      refine s_if_ge (pc := 105) (off := 12) 117 (by decide +kernel) (by decide) (fun _ => ?_) (fun _ => ?_)
      · exact pX4_valueAt_b117 hr9 a0 a1 a2 a3 a4 g2
      · refine s_aload_n (pc := 108) (k0 := 0) (i := 0) rfl 0 rfl (by decide +kernel) ?_
        refine s_iload (pc := 109) (i := 4) 4 rfl (by decide +kernel) ?_
        refine s_iload_n (pc := 111) (k0 := 1) (i := 1) rfl 1 rfl (by decide +kernel) ?_
        refine s_aload_n (pc := 112) (k0 := 2) (i := 2) rfl 2 rfl (by decide +kernel) ?_
        refine s_cVv (pc := 113) [.int a4, .int a1, .ref a2] (tX4_alongLine a0 a4 a1 a2 g2) c5 cw_X4_85 rfl ⟨⟨Nat.le_of_ble_eq_true rfl, Nat.le_of_ble_eq_true rfl⟩, Nat.le_of_ble_eq_true rfl⟩ rfl (by decide +kernel) (fun _ g9 e10 => ?_)
        exact s_vret (pc := 116) rfl (by decide +kernel)
theorem pX4_valueAt_b65 {h0 : xH} {r9 : Nat → Int32 → Nat → Int32 → Int32 → xH → Option (Unit × xH)} (hr9 : ∀  (a0 : Nat) (a1 : Int32) (a2 : Nat) (a3 : Int32) (a4 : Int32) (g : xH), S emV kX4_valueAt h0 9 [(0, .ref a0), (1, .int a1), (2, .ref a2), (3, .int a3), (4, .int a4)] [] g (r9  a0 a1 a2 a3 a4 g))  (a0 : Nat) (a1 : Int32) (a2 : Nat) (a4 : Int32) (h : xH) : S emV kX4_valueAt h0 65 [(0, .ref a0), (1, .int a1), (2, .ref a2), (4, .int a4)] [] h (fX4_valueAt_b65 r9 a0 a1 a2 a4 h) := by
  unfold fX4_valueAt_b65
  refine s_iload (pc := 65) (i := 4) 3 rfl (by decide +kernel) ?_
  refine s_istore_n (pc := 67) (L' := [(3, .int a4), (0, .ref a0), (1, .int a1), (2, .ref a2), (4, .int a4)]) (k0 := 3) (i := 3) rfl (by decide) rfl (by decide +kernel) ?_
  refine s_goto (pc := 68) (off := 49) 117 (by decide +kernel) (by decide) ?_
  refine S_sub [1, 2, 3, 0, 4] rfl ?_
  exact pX4_valueAt_b117 hr9 a0 a1 a2 a4 a4 h
theorem pX4_valueAt_b9 {h0 : xH} {r9 : Nat → Int32 → Nat → Int32 → Int32 → xH → Option (Unit × xH)} (hr9 : ∀  (a0 : Nat) (a1 : Int32) (a2 : Nat) (a3 : Int32) (a4 : Int32) (g : xH), S emV kX4_valueAt h0 9 [(0, .ref a0), (1, .int a1), (2, .ref a2), (3, .int a3), (4, .int a4)] [] g (r9  a0 a1 a2 a3 a4 g))  (a0 : Nat) (a1 : Int32) (a2 : Nat) (a3 : Int32) (a4 : Int32) (h : xH) : S emV kX4_valueAt h0 9 [(0, .ref a0), (1, .int a1), (2, .ref a2), (3, .int a3), (4, .int a4)] [] h (fX4_valueAt_b9 r9 a0 a1 a2 a3 a4 h) := by
  unfold fX4_valueAt_b9
  refine s_iload (pc := 9) (i := 4) 4 rfl (by decide +kernel) ?_
  refine s_aload_n (pc := 11) (k0 := 0) (i := 0) rfl 0 rfl (by decide +kernel) ?_
  refine S_gd (fun c1 => ?_)
  refine s_getI (pc := 12) (k := 0) c1 ft_X4_9 rfl (by decide +kernel) ?_
  refine s_icmp_ge (pc := 15) (off := 108) 123 (by decide +kernel) (by decide) (fun _ => ?_) (fun _ => ?_)
  · refine S_sub [0, 2, 3] rfl ?_
    exact pX4_valueAt_b123 a0 a2 a3 h
  · refine s_aload_n (pc := 18) (k0 := 0) (i := 0) rfl 0 rfl (by decide +kernel) ?_
    refine s_getR (pc := 19) (k := 1) c1 ft_X4_15 rfl (by decide +kernel) ?_
    refine s_iload (pc := 22) (i := 4) 4 rfl (by decide +kernel) ?_
    refine S_gd (fun c2 => ?_)
    refine S_gd (fun c3 => ?_)
    refine s_lald (pc := 24) c2 c3 (by decide +kernel) ?_
    refine s_iload_n (pc := 25) (k0 := 1) (i := 1) rfl 1 rfl (by decide +kernel) ?_
    refine s_i2l (pc := 26) (by decide +kernel) ?_
    refine s_lcmp (pc := 27) (by decide +kernel) ?_
    refine s_if_gt (pc := 28) (off := 95) 123 (by decide +kernel) (by decide) (fun _ => ?_) (fun _ => ?_)
    · refine S_sub [0, 2, 3] rfl ?_
      exact pX4_valueAt_b123 a0 a2 a3 h
    · refine s_aload_n (pc := 31) (k0 := 0) (i := 0) rfl 0 rfl (by decide +kernel) ?_
      refine s_getR (pc := 32) (k := 1) c1 ft_X4_15 rfl (by decide +kernel) ?_
      refine s_iload (pc := 35) (i := 4) 4 rfl (by decide +kernel) ?_
      refine s_lald (pc := 37) c2 c3 (by decide +kernel) ?_
      refine s_iload_n (pc := 38) (k0 := 1) (i := 1) rfl 1 rfl (by decide +kernel) ?_
      refine s_i2l (pc := 39) (by decide +kernel) ?_
      refine s_lcmp (pc := 40) (by decide +kernel) ?_
      refine s_if_ne (pc := 41) (off := 30) 71 (by decide +kernel) (by decide) (fun _ => ?_) (fun _ => ?_)
      · refine s_iload_n (pc := 44) (k0 := 3) (i := 3) rfl 3 rfl (by decide +kernel) ?_
        refine s_if_lt (pc := 45) (off := 20) 65 (by decide +kernel) (by decide) (fun _ => ?_) (fun _ => ?_)
        · refine S_sub [0, 1, 2, 4] rfl ?_
          exact pX4_valueAt_b65 hr9 a0 a1 a2 a4 h
        · refine s_aload_n (pc := 48) (k0 := 0) (i := 0) rfl 0 rfl (by decide +kernel) ?_
          refine s_getR (pc := 49) (k := 3) c1 ft_X4_22 rfl (by decide +kernel) ?_
          refine s_iload (pc := 52) (i := 4) 4 rfl (by decide +kernel) ?_
          refine S_gd (fun c4 => ?_)
          refine S_gd (fun c5 => ?_)
          refine s_lald (pc := 54) c4 c5 (by decide +kernel) ?_
          refine s_aload_n (pc := 55) (k0 := 0) (i := 0) rfl 0 rfl (by decide +kernel) ?_
          refine s_getR (pc := 56) (k := 3) c1 ft_X4_22 rfl (by decide +kernel) ?_
          refine s_iload_n (pc := 59) (k0 := 3) (i := 3) rfl 3 rfl (by decide +kernel) ?_
          refine S_gd (fun c6 => ?_)
          refine s_lald (pc := 60) c4 c6 (by decide +kernel) ?_
          refine s_lcmp (pc := 61) (by decide +kernel) ?_
          refine s_if_ge (pc := 62) (off := 9) 71 (by decide +kernel) (by decide) (fun _ => ?_) (fun _ => ?_)
          · exact pX4_valueAt_b71 hr9 a0 a1 a2 a3 a4 h
          · refine S_sub [0, 1, 2, 4] rfl ?_
            exact pX4_valueAt_b65 hr9 a0 a1 a2 a4 h
      · exact pX4_valueAt_b71 hr9 a0 a1 a2 a3 a4 h
theorem pX4_valueAt_l9 {h0 : xH}   : ∀ (k : Nat)  (a0 : Nat) (a1 : Int32) (a2 : Nat) (a3 : Int32) (a4 : Int32) (h : xH), S emV kX4_valueAt h0 9 [(0, .ref a0), (1, .int a1), (2, .ref a2), (3, .int a3), (4, .int a4)] [] h (fX4_valueAt_l9  k  a0 a1 a2 a3 a4 h) := by
  intro k
  induction k with
  | zero => intros; exact S_none
  | succ k ih => intro  a0 a1 a2 a3 a4 h; exact pX4_valueAt_b9 ih  a0 a1 a2 a3 a4 h
theorem pX4_valueAt_e    (a0 : Nat) (a1 : Int32) (a2 : Nat) (h : xH) : S emV kX4_valueAt h 0 [(0, .ref a0), (1, .int a1), (2, .ref a2)] [] h (fX4_valueAt  a0 a1 a2 h) := by
  unfold fX4_valueAt
  refine s_aload_n (pc := 0) (k0 := 2) (i := 2) rfl 2 rfl (by decide +kernel) ?_
  refine S_gd (fun c1 => ?_)
  refine s_cVv (pc := 1) [] (tX2_forget a2 h) c1 cw_X4_82 rfl ⟨⟨Nat.le_of_ble_eq_true rfl, Nat.le_of_ble_eq_true rfl⟩, Nat.le_of_ble_eq_true rfl⟩ rfl (by decide +kernel) (fun _ g2 e3 => ?_)
  refine s_iconst (pc := 4) (n := -1) (v := (-1 : Int32)) (by decide) (by decide +kernel) ?_
  refine s_nmI (fun v4 => ?_)
  refine s_istore_n (pc := 5) (L' := [(3, .int v4), (0, .ref a0), (1, .int a1), (2, .ref a2)]) (k0 := 3) (i := 3) rfl (by decide) rfl (by decide +kernel) ?_
  refine s_iconst (pc := 6) (n := 0) (v := (0 : Int32)) (by decide) (by decide +kernel) ?_
  refine s_nmI (fun v5 => ?_)
  refine s_istore (pc := 7) (L' := [(4, .int v5), (3, .int v4), (0, .ref a0), (1, .int a1), (2, .ref a2)]) (i := 4) (by decide) rfl (by decide +kernel) ?_
  refine S_sub [2, 3, 4, 1, 0] rfl ?_
  exact pX4_valueAt_l9 FU a0 a1 a2 v4 v5 g2
theorem tX4_valueAt (a0 : Nat) (a1 : Int32) (a2 : Nat) (h : xH) : Ct yX4_valueAt kX4_valueAt emV [.ref a0, .int a1, .ref a2] h (fX4_valueAt a0 a1 a2 h) := Ct_of (by decide +kernel) rfl rfl rfl (Nat.le_of_ble_eq_true rfl) rfl (pX4_valueAt_e a0 a1 a2 h)
def fX4_leftEndAt_b56 (r6 : Nat → Int32 → Nat → Int32 → xH → Option (Unit × xH))  (a0 : Nat) (a1 : Int32) (a2 : Nat) (a3 : Int32) (h : xH) : Option (Unit × xH) :=
  lt (a3 + (1 : Int32)) (fun v1 =>
  r6 a0 a1 a2 v1 h)
def fX4_leftEndAt_b6 (r6 : Nat → Int32 → Nat → Int32 → xH → Option (Unit × xH))  (a0 : Nat) (a1 : Int32) (a2 : Nat) (a3 : Int32) (h : xH) : Option (Unit × xH) :=
  if kc h a0 = 4 then
  if (hI h a0 0) ≤ a3 then (
  some ((), h))
  else (
  bd (fX4_hasLine a0 a3 h) (fun w4 g2 =>
  if w4 = 0 then (
  fX4_leftEndAt_b56 r6 a0 a1 a2 a3 g2)
  else (
  if kc g2 (hR g2 a0 1) = 9 then
  if ix a3 (kl g2 (hR g2 a0 1)) then
  if 0 ≤ (lg_cmp (hJ g2 (hR g2 a0 1) a3.toNatClampNeg) a1.toInt64) then (
  fX4_leftEndAt_b56 r6 a0 a1 a2 a3 g2)
  else (
  if ix (a3 + (1 : Int32)) (kl g2 (hR g2 a0 1)) then
  if 0 < (lg_cmp a1.toInt64 (hJ g2 (hR g2 a0 1) (a3 + (1 : Int32)).toNatClampNeg)) then (
  fX4_leftEndAt_b56 r6 a0 a1 a2 a3 g2)
  else (
  bd (fX4_alongLine a0 a3 a1 a2 g2) (fun _ g9 =>
  some ((), g9)))
  else none)
  else none
  else none)))
  else none
def fX4_leftEndAt_l6  : Nat → Nat → Int32 → Nat → Int32 → xH → Option (Unit × xH)
  | 0 => fun _ _ _ _ _ => none
  | k + 1 => fX4_leftEndAt_b6 (fX4_leftEndAt_l6  k)
def fX4_leftEndAt   (a0 : Nat) (a1 : Int32) (a2 : Nat) (h : xH) : Option (Unit × xH) :=
  if kc h a2 = 2 then
  bd (fX2_forget a2 h) (fun _ g2 =>
  lt (0 : Int32) (fun v4 =>
  fX4_leftEndAt_l6 FU a0 a1 a2 v4 g2))
  else none
theorem pX4_leftEndAt_b56 {h0 : xH} {r6 : Nat → Int32 → Nat → Int32 → xH → Option (Unit × xH)} (hr6 : ∀  (a0 : Nat) (a1 : Int32) (a2 : Nat) (a3 : Int32) (g : xH), S emV kX4_leftEndAt h0 6 [(0, .ref a0), (1, .int a1), (2, .ref a2), (3, .int a3)] [] g (r6  a0 a1 a2 a3 g))  (a0 : Nat) (a1 : Int32) (a2 : Nat) (a3 : Int32) (h : xH) : S emV kX4_leftEndAt h0 56 [(0, .ref a0), (1, .int a1), (2, .ref a2), (3, .int a3)] [] h (fX4_leftEndAt_b56 r6 a0 a1 a2 a3 h) := by
  unfold fX4_leftEndAt_b56
  refine s_iinc (pc := 56) (L' := [(3, .int (a3 + (1 : Int32))), (0, .ref a0), (1, .int a1), (2, .ref a2)]) (i := 3) (n := 1) 3 rfl rfl (by decide) rfl (by decide +kernel) ?_
  refine s_nmI0 (e := a3 + (1 : Int32)) (L := fun v1 => [(3, .int v1), (0, .ref a0), (1, .int a1), (2, .ref a2)]) (fun v1 => ?_)
  refine s_goto (pc := 59) (off := -53) 6 (by decide +kernel) (by decide) ?_
  refine S_sub [1, 2, 3, 0] rfl ?_
  exact hr6 a0 a1 a2 v1 h
theorem pX4_leftEndAt_b6 {h0 : xH} {r6 : Nat → Int32 → Nat → Int32 → xH → Option (Unit × xH)} (hr6 : ∀  (a0 : Nat) (a1 : Int32) (a2 : Nat) (a3 : Int32) (g : xH), S emV kX4_leftEndAt h0 6 [(0, .ref a0), (1, .int a1), (2, .ref a2), (3, .int a3)] [] g (r6  a0 a1 a2 a3 g))  (a0 : Nat) (a1 : Int32) (a2 : Nat) (a3 : Int32) (h : xH) : S emV kX4_leftEndAt h0 6 [(0, .ref a0), (1, .int a1), (2, .ref a2), (3, .int a3)] [] h (fX4_leftEndAt_b6 r6 a0 a1 a2 a3 h) := by
  unfold fX4_leftEndAt_b6
  refine s_iload_n (pc := 6) (k0 := 3) (i := 3) rfl 3 rfl (by decide +kernel) ?_
  refine s_aload_n (pc := 7) (k0 := 0) (i := 0) rfl 0 rfl (by decide +kernel) ?_
  refine S_gd (fun c1 => ?_)
  refine s_getI (pc := 8) (k := 0) c1 ft_X4_9 rfl (by decide +kernel) ?_
  refine s_icmp_ge (pc := 11) (off := 51) 62 (by decide +kernel) (by decide) (fun _ => ?_) (fun _ => ?_)
  · exact s_vret (pc := 62) rfl (by decide +kernel)
  · refine s_aload_n (pc := 14) (k0 := 0) (i := 0) rfl 0 rfl (by decide +kernel) ?_
    refine s_iload_n (pc := 15) (k0 := 3) (i := 3) rfl 3 rfl (by decide +kernel) ?_
    refine s_cVi (pc := 16) [.int a3] (tX4_hasLine a0 a3 h) c1 cw_X4_67 rfl ⟨⟨Nat.le_of_ble_eq_true rfl, Nat.le_of_ble_eq_true rfl⟩, Nat.le_of_ble_eq_true rfl⟩ rfl (by decide +kernel) (fun w4 g2 e3 => ?_)
    refine s_if_eq (pc := 19) (off := 37) 56 (by decide +kernel) (by decide) (fun _ => ?_) (fun _ => ?_)
    · exact pX4_leftEndAt_b56 hr6 a0 a1 a2 a3 g2
    · refine s_aload_n (pc := 22) (k0 := 0) (i := 0) rfl 0 rfl (by decide +kernel) ?_
      have c5 := kp e3 c1 (by decide)
      refine s_getR (pc := 23) (k := 1) c5 ft_X4_15 rfl (by decide +kernel) ?_
      refine s_iload_n (pc := 26) (k0 := 3) (i := 3) rfl 3 rfl (by decide +kernel) ?_
      refine S_gd (fun c6 => ?_)
      refine S_gd (fun c7 => ?_)
      refine s_lald (pc := 27) c6 c7 (by decide +kernel) ?_
      refine s_iload_n (pc := 28) (k0 := 1) (i := 1) rfl 1 rfl (by decide +kernel) ?_
      refine s_i2l (pc := 29) (by decide +kernel) ?_
      refine s_lcmp (pc := 30) (by decide +kernel) ?_
      refine s_if_ge (pc := 31) (off := 25) 56 (by decide +kernel) (by decide) (fun _ => ?_) (fun _ => ?_)
      · exact pX4_leftEndAt_b56 hr6 a0 a1 a2 a3 g2
      · refine s_iload_n (pc := 34) (k0 := 1) (i := 1) rfl 1 rfl (by decide +kernel) ?_
        refine s_i2l (pc := 35) (by decide +kernel) ?_
        refine s_aload_n (pc := 36) (k0 := 0) (i := 0) rfl 0 rfl (by decide +kernel) ?_
        refine s_getR (pc := 37) (k := 1) c5 ft_X4_15 rfl (by decide +kernel) ?_
        refine s_iload_n (pc := 40) (k0 := 3) (i := 3) rfl 3 rfl (by decide +kernel) ?_
        refine s_iconst (pc := 41) (n := 1) (v := (1 : Int32)) (by decide) (by decide +kernel) ?_
        refine s_iadd (pc := 42) (by decide +kernel) ?_
        refine S_gd (fun c8 => ?_)
        refine s_lald (pc := 43) c6 c8 (by decide +kernel) ?_
        refine s_lcmp (pc := 44) (by decide +kernel) ?_
        refine s_if_gt (pc := 45) (off := 11) 56 (by decide +kernel) (by decide) (fun _ => ?_) (fun _ => ?_)
        · exact pX4_leftEndAt_b56 hr6 a0 a1 a2 a3 g2
        · refine s_aload_n (pc := 48) (k0 := 0) (i := 0) rfl 0 rfl (by decide +kernel) ?_
          refine s_iload_n (pc := 49) (k0 := 3) (i := 3) rfl 3 rfl (by decide +kernel) ?_
          refine s_iload_n (pc := 50) (k0 := 1) (i := 1) rfl 1 rfl (by decide +kernel) ?_
          refine s_aload_n (pc := 51) (k0 := 2) (i := 2) rfl 2 rfl (by decide +kernel) ?_
          refine s_cVv (pc := 52) [.int a3, .int a1, .ref a2] (tX4_alongLine a0 a3 a1 a2 g2) c5 cw_X4_85 rfl ⟨⟨Nat.le_of_ble_eq_true rfl, Nat.le_of_ble_eq_true rfl⟩, Nat.le_of_ble_eq_true rfl⟩ rfl (by decide +kernel) (fun _ g9 e10 => ?_)
          exact s_vret (pc := 55) rfl (by decide +kernel)
theorem pX4_leftEndAt_l6 {h0 : xH}   : ∀ (k : Nat)  (a0 : Nat) (a1 : Int32) (a2 : Nat) (a3 : Int32) (h : xH), S emV kX4_leftEndAt h0 6 [(0, .ref a0), (1, .int a1), (2, .ref a2), (3, .int a3)] [] h (fX4_leftEndAt_l6  k  a0 a1 a2 a3 h) := by
  intro k
  induction k with
  | zero => intros; exact S_none
  | succ k ih => intro  a0 a1 a2 a3 h; exact pX4_leftEndAt_b6 ih  a0 a1 a2 a3 h
theorem pX4_leftEndAt_e    (a0 : Nat) (a1 : Int32) (a2 : Nat) (h : xH) : S emV kX4_leftEndAt h 0 [(0, .ref a0), (1, .int a1), (2, .ref a2)] [] h (fX4_leftEndAt  a0 a1 a2 h) := by
  unfold fX4_leftEndAt
  refine s_aload_n (pc := 0) (k0 := 2) (i := 2) rfl 2 rfl (by decide +kernel) ?_
  refine S_gd (fun c1 => ?_)
  refine s_cVv (pc := 1) [] (tX2_forget a2 h) c1 cw_X4_82 rfl ⟨⟨Nat.le_of_ble_eq_true rfl, Nat.le_of_ble_eq_true rfl⟩, Nat.le_of_ble_eq_true rfl⟩ rfl (by decide +kernel) (fun _ g2 e3 => ?_)
  refine s_iconst (pc := 4) (n := 0) (v := (0 : Int32)) (by decide) (by decide +kernel) ?_
  refine s_nmI (fun v4 => ?_)
  refine s_istore_n (pc := 5) (L' := [(3, .int v4), (0, .ref a0), (1, .int a1), (2, .ref a2)]) (k0 := 3) (i := 3) rfl (by decide) rfl (by decide +kernel) ?_
  refine S_sub [1, 2, 3, 0] rfl ?_
  exact pX4_leftEndAt_l6 FU a0 a1 a2 v4 g2
theorem tX4_leftEndAt (a0 : Nat) (a1 : Int32) (a2 : Nat) (h : xH) : Ct yX4_leftEndAt kX4_leftEndAt emV [.ref a0, .int a1, .ref a2] h (fX4_leftEndAt a0 a1 a2 h) := Ct_of (by decide +kernel) rfl rfl rfl (Nat.le_of_ble_eq_true rfl) rfl (pX4_leftEndAt_e a0 a1 a2 h)
def fX4_rightBeginAt_b56 (r6 : Nat → Int32 → Nat → Int32 → xH → Option (Unit × xH))  (a0 : Nat) (a1 : Int32) (a2 : Nat) (a3 : Int32) (h : xH) : Option (Unit × xH) :=
  lt (a3 + (1 : Int32)) (fun v1 =>
  r6 a0 a1 a2 v1 h)
def fX4_rightBeginAt_b6 (r6 : Nat → Int32 → Nat → Int32 → xH → Option (Unit × xH))  (a0 : Nat) (a1 : Int32) (a2 : Nat) (a3 : Int32) (h : xH) : Option (Unit × xH) :=
  if kc h a0 = 4 then
  if (hI h a0 0) ≤ a3 then (
  some ((), h))
  else (
  bd (fX4_hasLine a0 a3 h) (fun w4 g2 =>
  if w4 = 0 then (
  fX4_rightBeginAt_b56 r6 a0 a1 a2 a3 g2)
  else (
  if kc g2 (hR g2 a0 1) = 9 then
  if ix a3 (kl g2 (hR g2 a0 1)) then
  if 0 < (lg_cmp (hJ g2 (hR g2 a0 1) a3.toNatClampNeg) a1.toInt64) then (
  fX4_rightBeginAt_b56 r6 a0 a1 a2 a3 g2)
  else (
  if ix (a3 + (1 : Int32)) (kl g2 (hR g2 a0 1)) then
  if 0 ≤ (lg_cmp a1.toInt64 (hJ g2 (hR g2 a0 1) (a3 + (1 : Int32)).toNatClampNeg)) then (
  fX4_rightBeginAt_b56 r6 a0 a1 a2 a3 g2)
  else (
  bd (fX4_alongLine a0 a3 a1 a2 g2) (fun _ g9 =>
  some ((), g9)))
  else none)
  else none
  else none)))
  else none
def fX4_rightBeginAt_l6  : Nat → Nat → Int32 → Nat → Int32 → xH → Option (Unit × xH)
  | 0 => fun _ _ _ _ _ => none
  | k + 1 => fX4_rightBeginAt_b6 (fX4_rightBeginAt_l6  k)
def fX4_rightBeginAt   (a0 : Nat) (a1 : Int32) (a2 : Nat) (h : xH) : Option (Unit × xH) :=
  if kc h a2 = 2 then
  bd (fX2_forget a2 h) (fun _ g2 =>
  lt (0 : Int32) (fun v4 =>
  fX4_rightBeginAt_l6 FU a0 a1 a2 v4 g2))
  else none
theorem pX4_rightBeginAt_b56 {h0 : xH} {r6 : Nat → Int32 → Nat → Int32 → xH → Option (Unit × xH)} (hr6 : ∀  (a0 : Nat) (a1 : Int32) (a2 : Nat) (a3 : Int32) (g : xH), S emV kX4_rightBeginAt h0 6 [(0, .ref a0), (1, .int a1), (2, .ref a2), (3, .int a3)] [] g (r6  a0 a1 a2 a3 g))  (a0 : Nat) (a1 : Int32) (a2 : Nat) (a3 : Int32) (h : xH) : S emV kX4_rightBeginAt h0 56 [(0, .ref a0), (1, .int a1), (2, .ref a2), (3, .int a3)] [] h (fX4_rightBeginAt_b56 r6 a0 a1 a2 a3 h) := by
  unfold fX4_rightBeginAt_b56
  refine s_iinc (pc := 56) (L' := [(3, .int (a3 + (1 : Int32))), (0, .ref a0), (1, .int a1), (2, .ref a2)]) (i := 3) (n := 1) 3 rfl rfl (by decide) rfl (by decide +kernel) ?_
  refine s_nmI0 (e := a3 + (1 : Int32)) (L := fun v1 => [(3, .int v1), (0, .ref a0), (1, .int a1), (2, .ref a2)]) (fun v1 => ?_)
  refine s_goto (pc := 59) (off := -53) 6 (by decide +kernel) (by decide) ?_
  refine S_sub [1, 2, 3, 0] rfl ?_
  exact hr6 a0 a1 a2 v1 h
theorem pX4_rightBeginAt_b6 {h0 : xH} {r6 : Nat → Int32 → Nat → Int32 → xH → Option (Unit × xH)} (hr6 : ∀  (a0 : Nat) (a1 : Int32) (a2 : Nat) (a3 : Int32) (g : xH), S emV kX4_rightBeginAt h0 6 [(0, .ref a0), (1, .int a1), (2, .ref a2), (3, .int a3)] [] g (r6  a0 a1 a2 a3 g))  (a0 : Nat) (a1 : Int32) (a2 : Nat) (a3 : Int32) (h : xH) : S emV kX4_rightBeginAt h0 6 [(0, .ref a0), (1, .int a1), (2, .ref a2), (3, .int a3)] [] h (fX4_rightBeginAt_b6 r6 a0 a1 a2 a3 h) := by
  unfold fX4_rightBeginAt_b6
  refine s_iload_n (pc := 6) (k0 := 3) (i := 3) rfl 3 rfl (by decide +kernel) ?_
  refine s_aload_n (pc := 7) (k0 := 0) (i := 0) rfl 0 rfl (by decide +kernel) ?_
  refine S_gd (fun c1 => ?_)
  refine s_getI (pc := 8) (k := 0) c1 ft_X4_9 rfl (by decide +kernel) ?_
  refine s_icmp_ge (pc := 11) (off := 51) 62 (by decide +kernel) (by decide) (fun _ => ?_) (fun _ => ?_)
  · exact s_vret (pc := 62) rfl (by decide +kernel)
  · refine s_aload_n (pc := 14) (k0 := 0) (i := 0) rfl 0 rfl (by decide +kernel) ?_
    refine s_iload_n (pc := 15) (k0 := 3) (i := 3) rfl 3 rfl (by decide +kernel) ?_
    refine s_cVi (pc := 16) [.int a3] (tX4_hasLine a0 a3 h) c1 cw_X4_67 rfl ⟨⟨Nat.le_of_ble_eq_true rfl, Nat.le_of_ble_eq_true rfl⟩, Nat.le_of_ble_eq_true rfl⟩ rfl (by decide +kernel) (fun w4 g2 e3 => ?_)
    refine s_if_eq (pc := 19) (off := 37) 56 (by decide +kernel) (by decide) (fun _ => ?_) (fun _ => ?_)
    · exact pX4_rightBeginAt_b56 hr6 a0 a1 a2 a3 g2
    · refine s_aload_n (pc := 22) (k0 := 0) (i := 0) rfl 0 rfl (by decide +kernel) ?_
      have c5 := kp e3 c1 (by decide)
      refine s_getR (pc := 23) (k := 1) c5 ft_X4_15 rfl (by decide +kernel) ?_
      refine s_iload_n (pc := 26) (k0 := 3) (i := 3) rfl 3 rfl (by decide +kernel) ?_
      refine S_gd (fun c6 => ?_)
      refine S_gd (fun c7 => ?_)
      refine s_lald (pc := 27) c6 c7 (by decide +kernel) ?_
      refine s_iload_n (pc := 28) (k0 := 1) (i := 1) rfl 1 rfl (by decide +kernel) ?_
      refine s_i2l (pc := 29) (by decide +kernel) ?_
      refine s_lcmp (pc := 30) (by decide +kernel) ?_
      refine s_if_gt (pc := 31) (off := 25) 56 (by decide +kernel) (by decide) (fun _ => ?_) (fun _ => ?_)
      · exact pX4_rightBeginAt_b56 hr6 a0 a1 a2 a3 g2
      · refine s_iload_n (pc := 34) (k0 := 1) (i := 1) rfl 1 rfl (by decide +kernel) ?_
        refine s_i2l (pc := 35) (by decide +kernel) ?_
        refine s_aload_n (pc := 36) (k0 := 0) (i := 0) rfl 0 rfl (by decide +kernel) ?_
        refine s_getR (pc := 37) (k := 1) c5 ft_X4_15 rfl (by decide +kernel) ?_
        refine s_iload_n (pc := 40) (k0 := 3) (i := 3) rfl 3 rfl (by decide +kernel) ?_
        refine s_iconst (pc := 41) (n := 1) (v := (1 : Int32)) (by decide) (by decide +kernel) ?_
        refine s_iadd (pc := 42) (by decide +kernel) ?_
        refine S_gd (fun c8 => ?_)
        refine s_lald (pc := 43) c6 c8 (by decide +kernel) ?_
        refine s_lcmp (pc := 44) (by decide +kernel) ?_
        refine s_if_ge (pc := 45) (off := 11) 56 (by decide +kernel) (by decide) (fun _ => ?_) (fun _ => ?_)
        · exact pX4_rightBeginAt_b56 hr6 a0 a1 a2 a3 g2
        · refine s_aload_n (pc := 48) (k0 := 0) (i := 0) rfl 0 rfl (by decide +kernel) ?_
          refine s_iload_n (pc := 49) (k0 := 3) (i := 3) rfl 3 rfl (by decide +kernel) ?_
          refine s_iload_n (pc := 50) (k0 := 1) (i := 1) rfl 1 rfl (by decide +kernel) ?_
          refine s_aload_n (pc := 51) (k0 := 2) (i := 2) rfl 2 rfl (by decide +kernel) ?_
          refine s_cVv (pc := 52) [.int a3, .int a1, .ref a2] (tX4_alongLine a0 a3 a1 a2 g2) c5 cw_X4_85 rfl ⟨⟨Nat.le_of_ble_eq_true rfl, Nat.le_of_ble_eq_true rfl⟩, Nat.le_of_ble_eq_true rfl⟩ rfl (by decide +kernel) (fun _ g9 e10 => ?_)
          exact s_vret (pc := 55) rfl (by decide +kernel)
theorem pX4_rightBeginAt_l6 {h0 : xH}   : ∀ (k : Nat)  (a0 : Nat) (a1 : Int32) (a2 : Nat) (a3 : Int32) (h : xH), S emV kX4_rightBeginAt h0 6 [(0, .ref a0), (1, .int a1), (2, .ref a2), (3, .int a3)] [] h (fX4_rightBeginAt_l6  k  a0 a1 a2 a3 h) := by
  intro k
  induction k with
  | zero => intros; exact S_none
  | succ k ih => intro  a0 a1 a2 a3 h; exact pX4_rightBeginAt_b6 ih  a0 a1 a2 a3 h
theorem pX4_rightBeginAt_e    (a0 : Nat) (a1 : Int32) (a2 : Nat) (h : xH) : S emV kX4_rightBeginAt h 0 [(0, .ref a0), (1, .int a1), (2, .ref a2)] [] h (fX4_rightBeginAt  a0 a1 a2 h) := by
  unfold fX4_rightBeginAt
  refine s_aload_n (pc := 0) (k0 := 2) (i := 2) rfl 2 rfl (by decide +kernel) ?_
  refine S_gd (fun c1 => ?_)
  refine s_cVv (pc := 1) [] (tX2_forget a2 h) c1 cw_X4_82 rfl ⟨⟨Nat.le_of_ble_eq_true rfl, Nat.le_of_ble_eq_true rfl⟩, Nat.le_of_ble_eq_true rfl⟩ rfl (by decide +kernel) (fun _ g2 e3 => ?_)
  refine s_iconst (pc := 4) (n := 0) (v := (0 : Int32)) (by decide) (by decide +kernel) ?_
  refine s_nmI (fun v4 => ?_)
  refine s_istore_n (pc := 5) (L' := [(3, .int v4), (0, .ref a0), (1, .int a1), (2, .ref a2)]) (k0 := 3) (i := 3) rfl (by decide) rfl (by decide +kernel) ?_
  refine S_sub [1, 2, 3, 0] rfl ?_
  exact pX4_rightBeginAt_l6 FU a0 a1 a2 v4 g2
theorem tX4_rightBeginAt (a0 : Nat) (a1 : Int32) (a2 : Nat) (h : xH) : Ct yX4_rightBeginAt kX4_rightBeginAt emV [.ref a0, .int a1, .ref a2] h (fX4_rightBeginAt a0 a1 a2 h) := Ct_of (by decide +kernel) rfl rfl rfl (Nat.le_of_ble_eq_true rfl) rfl (pX4_rightBeginAt_e a0 a1 a2 h)
def fX4_parts_b24 (r4 : Nat → Int32 → Int32 → xH → Option (Int32 × xH))  (a0 : Nat) (a1 : Int32) (a2 : Int32) (h : xH) : Option (Int32 × xH) :=
  lt (a2 + (1 : Int32)) (fun v1 =>
  r4 a0 a1 v1 h)
def fX4_parts_b4 (r4 : Nat → Int32 → Int32 → xH → Option (Int32 × xH))  (a0 : Nat) (a1 : Int32) (a2 : Int32) (h : xH) : Option (Int32 × xH) :=
  if kc h a0 = 4 then
  if (hI h a0 0) ≤ a2 then (
  some (a1, h))
  else (
  if kc h (hR h a0 5) = 8 then
  if ix a2 (kl h (hR h a0 5)) then
  if (hI h (hR h a0 5) a2.toNatClampNeg) = 0 then (
  lt (a1 + (1 : Int32)) (fun v4 =>
  fX4_parts_b24 r4 a0 v4 a2 h))
  else (
  fX4_parts_b24 r4 a0 a1 a2 h)
  else none
  else none)
  else none
def fX4_parts_l4  : Nat → Nat → Int32 → Int32 → xH → Option (Int32 × xH)
  | 0 => fun _ _ _ _ => none
  | k + 1 => fX4_parts_b4 (fX4_parts_l4  k)
def fX4_parts   (a0 : Nat) (h : xH) : Option (Int32 × xH) :=
  lt (0 : Int32) (fun v1 =>
  lt (0 : Int32) (fun v2 =>
  fX4_parts_l4 FU a0 v1 v2 h))
theorem pX4_parts_b24 {h0 : xH} {r4 : Nat → Int32 → Int32 → xH → Option (Int32 × xH)} (hr4 : ∀  (a0 : Nat) (a1 : Int32) (a2 : Int32) (g : xH), S emI kX4_parts h0 4 [(0, .ref a0), (1, .int a1), (2, .int a2)] [] g (r4  a0 a1 a2 g))  (a0 : Nat) (a1 : Int32) (a2 : Int32) (h : xH) : S emI kX4_parts h0 24 [(0, .ref a0), (1, .int a1), (2, .int a2)] [] h (fX4_parts_b24 r4 a0 a1 a2 h) := by
  unfold fX4_parts_b24
  refine s_iinc (pc := 24) (L' := [(2, .int (a2 + (1 : Int32))), (0, .ref a0), (1, .int a1)]) (i := 2) (n := 1) 2 rfl rfl (by decide) rfl (by decide +kernel) ?_
  refine s_nmI0 (e := a2 + (1 : Int32)) (L := fun v1 => [(2, .int v1), (0, .ref a0), (1, .int a1)]) (fun v1 => ?_)
  refine s_goto (pc := 27) (off := -23) 4 (by decide +kernel) (by decide) ?_
  refine S_sub [1, 2, 0] rfl ?_
  exact hr4 a0 a1 v1 h
theorem pX4_parts_b4 {h0 : xH} {r4 : Nat → Int32 → Int32 → xH → Option (Int32 × xH)} (hr4 : ∀  (a0 : Nat) (a1 : Int32) (a2 : Int32) (g : xH), S emI kX4_parts h0 4 [(0, .ref a0), (1, .int a1), (2, .int a2)] [] g (r4  a0 a1 a2 g))  (a0 : Nat) (a1 : Int32) (a2 : Int32) (h : xH) : S emI kX4_parts h0 4 [(0, .ref a0), (1, .int a1), (2, .int a2)] [] h (fX4_parts_b4 r4 a0 a1 a2 h) := by
  unfold fX4_parts_b4
  refine s_iload_n (pc := 4) (k0 := 2) (i := 2) rfl 2 rfl (by decide +kernel) ?_
  refine s_aload_n (pc := 5) (k0 := 0) (i := 0) rfl 0 rfl (by decide +kernel) ?_
  refine S_gd (fun c1 => ?_)
  refine s_getI (pc := 6) (k := 0) c1 ft_X4_9 rfl (by decide +kernel) ?_
  refine s_icmp_ge (pc := 9) (off := 21) 30 (by decide +kernel) (by decide) (fun _ => ?_) (fun _ => ?_)
  · refine s_iload_n (pc := 30) (k0 := 1) (i := 1) rfl 1 rfl (by decide +kernel) ?_
    exact s_iret (pc := 31) rfl (by decide +kernel)
  · refine s_aload_n (pc := 12) (k0 := 0) (i := 0) rfl 0 rfl (by decide +kernel) ?_
    refine s_getR (pc := 13) (k := 5) c1 ft_X4_28 rfl (by decide +kernel) ?_
    refine s_iload_n (pc := 16) (k0 := 2) (i := 2) rfl 2 rfl (by decide +kernel) ?_
    refine S_gd (fun c2 => ?_)
    refine S_gd (fun c3 => ?_)
    refine s_iald (pc := 17) c2 c3 (by decide +kernel) ?_
    refine s_if_ne (pc := 18) (off := 6) 24 (by decide +kernel) (by decide) (fun _ => ?_) (fun _ => ?_)
    · refine s_iinc (pc := 21) (L' := [(1, .int (a1 + (1 : Int32))), (0, .ref a0), (2, .int a2)]) (i := 1) (n := 1) 1 rfl rfl (by decide) rfl (by decide +kernel) ?_
      refine s_nmI0 (e := a1 + (1 : Int32)) (L := fun v4 => [(1, .int v4), (0, .ref a0), (2, .int a2)]) (fun v4 => ?_)
      refine S_sub [1, 0, 2] rfl ?_
      exact pX4_parts_b24 hr4 a0 v4 a2 h
    · exact pX4_parts_b24 hr4 a0 a1 a2 h
theorem pX4_parts_l4 {h0 : xH}   : ∀ (k : Nat)  (a0 : Nat) (a1 : Int32) (a2 : Int32) (h : xH), S emI kX4_parts h0 4 [(0, .ref a0), (1, .int a1), (2, .int a2)] [] h (fX4_parts_l4  k  a0 a1 a2 h) := by
  intro k
  induction k with
  | zero => intros; exact S_none
  | succ k ih => intro  a0 a1 a2 h; exact pX4_parts_b4 ih  a0 a1 a2 h
theorem pX4_parts_e    (a0 : Nat) (h : xH) : S emI kX4_parts h 0 [(0, .ref a0)] [] h (fX4_parts  a0 h) := by
  unfold fX4_parts
  refine s_iconst (pc := 0) (n := 0) (v := (0 : Int32)) (by decide) (by decide +kernel) ?_
  refine s_nmI (fun v1 => ?_)
  refine s_istore_n (pc := 1) (L' := [(1, .int v1), (0, .ref a0)]) (k0 := 1) (i := 1) rfl (by decide) rfl (by decide +kernel) ?_
  refine s_iconst (pc := 2) (n := 0) (v := (0 : Int32)) (by decide) (by decide +kernel) ?_
  refine s_nmI (fun v2 => ?_)
  refine s_istore_n (pc := 3) (L' := [(2, .int v2), (1, .int v1), (0, .ref a0)]) (k0 := 2) (i := 2) rfl (by decide) rfl (by decide +kernel) ?_
  refine S_sub [2, 1, 0] rfl ?_
  exact pX4_parts_l4 FU a0 v1 v2 h
theorem tX4_parts (a0 : Nat) (h : xH) : Ct yX4_parts kX4_parts emI [.ref a0] h (fX4_parts a0 h) := Ct_of (by decide +kernel) rfl rfl rfl (Nat.le_of_ble_eq_true rfl) rfl (pX4_parts_e a0 h)
def fX4_jumps_b44 (r4 : Nat → Int32 → Int32 → xH → Option (Int32 × xH))  (a0 : Nat) (a1 : Int32) (a2 : Int32) (h : xH) : Option (Int32 × xH) :=
  lt (a2 + (1 : Int32)) (fun v1 =>
  r4 a0 a1 v1 h)
def fX4_jumps_b4 (r4 : Nat → Int32 → Int32 → xH → Option (Int32 × xH))  (a0 : Nat) (a1 : Int32) (a2 : Int32) (h : xH) : Option (Int32 × xH) :=
  if kc h a0 = 4 then
  if (hI h a0 0) ≤ a2 then (
  some (a1, h))
  else (
  if kc h (hR h a0 5) = 8 then
  if ix (a2 - (1 : Int32)) (kl h (hR h a0 5)) then
  if (hI h (hR h a0 5) (a2 - (1 : Int32)).toNatClampNeg) = 0 then (
  if kc h (hR h a0 1) = 9 then
  if ix a2 (kl h (hR h a0 1)) then
  if ix (a2 - (1 : Int32)) (kl h (hR h a0 1)) then
  if (lg_cmp (hJ h (hR h a0 1) a2.toNatClampNeg) (hJ h (hR h a0 1) (a2 - (1 : Int32)).toNatClampNeg)) = 0 then (
  lt (a1 + (1 : Int32)) (fun v7 =>
  fX4_jumps_b44 r4 a0 v7 a2 h))
  else (
  fX4_jumps_b44 r4 a0 a1 a2 h)
  else none
  else none
  else none)
  else (
  fX4_jumps_b44 r4 a0 a1 a2 h)
  else none
  else none)
  else none
def fX4_jumps_l4  : Nat → Nat → Int32 → Int32 → xH → Option (Int32 × xH)
  | 0 => fun _ _ _ _ => none
  | k + 1 => fX4_jumps_b4 (fX4_jumps_l4  k)
def fX4_jumps   (a0 : Nat) (h : xH) : Option (Int32 × xH) :=
  lt (0 : Int32) (fun v1 =>
  lt (1 : Int32) (fun v2 =>
  fX4_jumps_l4 FU a0 v1 v2 h))
theorem pX4_jumps_b44 {h0 : xH} {r4 : Nat → Int32 → Int32 → xH → Option (Int32 × xH)} (hr4 : ∀  (a0 : Nat) (a1 : Int32) (a2 : Int32) (g : xH), S emI kX4_jumps h0 4 [(0, .ref a0), (1, .int a1), (2, .int a2)] [] g (r4  a0 a1 a2 g))  (a0 : Nat) (a1 : Int32) (a2 : Int32) (h : xH) : S emI kX4_jumps h0 44 [(0, .ref a0), (1, .int a1), (2, .int a2)] [] h (fX4_jumps_b44 r4 a0 a1 a2 h) := by
  unfold fX4_jumps_b44
  refine s_iinc (pc := 44) (L' := [(2, .int (a2 + (1 : Int32))), (0, .ref a0), (1, .int a1)]) (i := 2) (n := 1) 2 rfl rfl (by decide) rfl (by decide +kernel) ?_
  refine s_nmI0 (e := a2 + (1 : Int32)) (L := fun v1 => [(2, .int v1), (0, .ref a0), (1, .int a1)]) (fun v1 => ?_)
  refine s_goto (pc := 47) (off := -43) 4 (by decide +kernel) (by decide) ?_
  refine S_sub [1, 2, 0] rfl ?_
  exact hr4 a0 a1 v1 h
theorem pX4_jumps_b4 {h0 : xH} {r4 : Nat → Int32 → Int32 → xH → Option (Int32 × xH)} (hr4 : ∀  (a0 : Nat) (a1 : Int32) (a2 : Int32) (g : xH), S emI kX4_jumps h0 4 [(0, .ref a0), (1, .int a1), (2, .int a2)] [] g (r4  a0 a1 a2 g))  (a0 : Nat) (a1 : Int32) (a2 : Int32) (h : xH) : S emI kX4_jumps h0 4 [(0, .ref a0), (1, .int a1), (2, .int a2)] [] h (fX4_jumps_b4 r4 a0 a1 a2 h) := by
  unfold fX4_jumps_b4
  refine s_iload_n (pc := 4) (k0 := 2) (i := 2) rfl 2 rfl (by decide +kernel) ?_
  refine s_aload_n (pc := 5) (k0 := 0) (i := 0) rfl 0 rfl (by decide +kernel) ?_
  refine S_gd (fun c1 => ?_)
  refine s_getI (pc := 6) (k := 0) c1 ft_X4_9 rfl (by decide +kernel) ?_
  refine s_icmp_ge (pc := 9) (off := 41) 50 (by decide +kernel) (by decide) (fun _ => ?_) (fun _ => ?_)
  · refine s_iload_n (pc := 50) (k0 := 1) (i := 1) rfl 1 rfl (by decide +kernel) ?_
    exact s_iret (pc := 51) rfl (by decide +kernel)
  · refine s_aload_n (pc := 12) (k0 := 0) (i := 0) rfl 0 rfl (by decide +kernel) ?_
    refine s_getR (pc := 13) (k := 5) c1 ft_X4_28 rfl (by decide +kernel) ?_
    refine s_iload_n (pc := 16) (k0 := 2) (i := 2) rfl 2 rfl (by decide +kernel) ?_
    refine s_iconst (pc := 17) (n := 1) (v := (1 : Int32)) (by decide) (by decide +kernel) ?_
    refine s_isub (pc := 18) (by decide +kernel) ?_
    refine S_gd (fun c2 => ?_)
    refine S_gd (fun c3 => ?_)
    refine s_iald (pc := 19) c2 c3 (by decide +kernel) ?_
    refine s_if_ne (pc := 20) (off := 24) 44 (by decide +kernel) (by decide) (fun _ => ?_) (fun _ => ?_)
    · refine s_aload_n (pc := 23) (k0 := 0) (i := 0) rfl 0 rfl (by decide +kernel) ?_
      refine s_getR (pc := 24) (k := 1) c1 ft_X4_15 rfl (by decide +kernel) ?_
      refine s_iload_n (pc := 27) (k0 := 2) (i := 2) rfl 2 rfl (by decide +kernel) ?_
      refine S_gd (fun c4 => ?_)
      refine S_gd (fun c5 => ?_)
      refine s_lald (pc := 28) c4 c5 (by decide +kernel) ?_
      refine s_aload_n (pc := 29) (k0 := 0) (i := 0) rfl 0 rfl (by decide +kernel) ?_
      refine s_getR (pc := 30) (k := 1) c1 ft_X4_15 rfl (by decide +kernel) ?_
      refine s_iload_n (pc := 33) (k0 := 2) (i := 2) rfl 2 rfl (by decide +kernel) ?_
      refine s_iconst (pc := 34) (n := 1) (v := (1 : Int32)) (by decide) (by decide +kernel) ?_
      refine s_isub (pc := 35) (by decide +kernel) ?_
      refine S_gd (fun c6 => ?_)
      refine s_lald (pc := 36) c4 c6 (by decide +kernel) ?_
      refine s_lcmp (pc := 37) (by decide +kernel) ?_
      refine s_if_ne (pc := 38) (off := 6) 44 (by decide +kernel) (by decide) (fun _ => ?_) (fun _ => ?_)
      · refine s_iinc (pc := 41) (L' := [(1, .int (a1 + (1 : Int32))), (0, .ref a0), (2, .int a2)]) (i := 1) (n := 1) 1 rfl rfl (by decide) rfl (by decide +kernel) ?_
        refine s_nmI0 (e := a1 + (1 : Int32)) (L := fun v7 => [(1, .int v7), (0, .ref a0), (2, .int a2)]) (fun v7 => ?_)
        refine S_sub [1, 0, 2] rfl ?_
        exact pX4_jumps_b44 hr4 a0 v7 a2 h
      · exact pX4_jumps_b44 hr4 a0 a1 a2 h
    · exact pX4_jumps_b44 hr4 a0 a1 a2 h
theorem pX4_jumps_l4 {h0 : xH}   : ∀ (k : Nat)  (a0 : Nat) (a1 : Int32) (a2 : Int32) (h : xH), S emI kX4_jumps h0 4 [(0, .ref a0), (1, .int a1), (2, .int a2)] [] h (fX4_jumps_l4  k  a0 a1 a2 h) := by
  intro k
  induction k with
  | zero => intros; exact S_none
  | succ k ih => intro  a0 a1 a2 h; exact pX4_jumps_b4 ih  a0 a1 a2 h
theorem pX4_jumps_e    (a0 : Nat) (h : xH) : S emI kX4_jumps h 0 [(0, .ref a0)] [] h (fX4_jumps  a0 h) := by
  unfold fX4_jumps
  refine s_iconst (pc := 0) (n := 0) (v := (0 : Int32)) (by decide) (by decide +kernel) ?_
  refine s_nmI (fun v1 => ?_)
  refine s_istore_n (pc := 1) (L' := [(1, .int v1), (0, .ref a0)]) (k0 := 1) (i := 1) rfl (by decide) rfl (by decide +kernel) ?_
  refine s_iconst (pc := 2) (n := 1) (v := (1 : Int32)) (by decide) (by decide +kernel) ?_
  refine s_nmI (fun v2 => ?_)
  refine s_istore_n (pc := 3) (L' := [(2, .int v2), (1, .int v1), (0, .ref a0)]) (k0 := 2) (i := 2) rfl (by decide) rfl (by decide +kernel) ?_
  refine S_sub [2, 1, 0] rfl ?_
  exact pX4_jumps_l4 FU a0 v1 v2 h
theorem tX4_jumps (a0 : Nat) (h : xH) : Ct yX4_jumps kX4_jumps emI [.ref a0] h (fX4_jumps a0 h) := Ct_of (by decide +kernel) rfl rfl rfl (Nat.le_of_ble_eq_true rfl) rfl (pX4_jumps_e a0 h)
def fX4_slopeFalls_b60 (r6 : Nat → Int32 → Int32 → Int32 → xH → Option (Int32 × xH))  (a0 : Nat) (a1 : Int32) (a2 : Int32) (a3 : Int32) (h : xH) : Option (Int32 × xH) :=
  lt (a3 + (1 : Int32)) (fun v1 =>
  r6 a0 a1 a2 v1 h)
def fX4_slopeFalls_b58 (r6 : Nat → Int32 → Int32 → Int32 → xH → Option (Int32 × xH))  (a0 : Nat) (a1 : Int32) (a3 : Int32) (h : xH) : Option (Int32 × xH) :=
  fX4_slopeFalls_b60 r6 a0 a1 a3 a3 h
def fX4_slopeFalls_b6 (r6 : Nat → Int32 → Int32 → Int32 → xH → Option (Int32 × xH))  (a0 : Nat) (a1 : Int32) (a2 : Int32) (a3 : Int32) (h : xH) : Option (Int32 × xH) :=
  if kc h a0 = 4 then
  if (hI h a0 0) ≤ a3 then (
  some (a1, h))
  else (
  bd (fX4_hasLine a0 a3 h) (fun w4 g2 =>
  if w4 = 0 then (
  fX4_slopeFalls_b60 r6 a0 a1 a2 a3 g2)
  else (
  if a2 < 0 then (
  fX4_slopeFalls_b58 r6 a0 a1 a3 g2)
  else (
  bd (fX4_riseOf a0 a3 g2) (fun w8 g6 =>
  bd (fX4_runOf a0 a2 g6) (fun w12 g10 =>
  bd (fX4_riseOf a0 a2 g10) (fun w16 g14 =>
  bd (fX4_runOf a0 a3 g14) (fun w20 g18 =>
  if 0 ≤ (lg_cmp (w8 * w12) (w16 * w20)) then (
  fX4_slopeFalls_b58 r6 a0 a1 a3 g18)
  else (
  lt (a1 + (1 : Int32)) (fun v21 =>
  fX4_slopeFalls_b58 r6 a0 v21 a3 g18))))))))))
  else none
def fX4_slopeFalls_l6  : Nat → Nat → Int32 → Int32 → Int32 → xH → Option (Int32 × xH)
  | 0 => fun _ _ _ _ _ => none
  | k + 1 => fX4_slopeFalls_b6 (fX4_slopeFalls_l6  k)
def fX4_slopeFalls   (a0 : Nat) (h : xH) : Option (Int32 × xH) :=
  lt (0 : Int32) (fun v1 =>
  lt (-1 : Int32) (fun v2 =>
  lt (0 : Int32) (fun v3 =>
  fX4_slopeFalls_l6 FU a0 v1 v2 v3 h)))
theorem pX4_slopeFalls_b60 {h0 : xH} {r6 : Nat → Int32 → Int32 → Int32 → xH → Option (Int32 × xH)} (hr6 : ∀  (a0 : Nat) (a1 : Int32) (a2 : Int32) (a3 : Int32) (g : xH), S emI kX4_slopeFalls h0 6 [(0, .ref a0), (1, .int a1), (2, .int a2), (3, .int a3)] [] g (r6  a0 a1 a2 a3 g))  (a0 : Nat) (a1 : Int32) (a2 : Int32) (a3 : Int32) (h : xH) : S emI kX4_slopeFalls h0 60 [(0, .ref a0), (1, .int a1), (2, .int a2), (3, .int a3)] [] h (fX4_slopeFalls_b60 r6 a0 a1 a2 a3 h) := by
  unfold fX4_slopeFalls_b60
  refine s_iinc (pc := 60) (L' := [(3, .int (a3 + (1 : Int32))), (0, .ref a0), (1, .int a1), (2, .int a2)]) (i := 3) (n := 1) 3 rfl rfl (by decide) rfl (by decide +kernel) ?_
  refine s_nmI0 (e := a3 + (1 : Int32)) (L := fun v1 => [(3, .int v1), (0, .ref a0), (1, .int a1), (2, .int a2)]) (fun v1 => ?_)
  refine s_goto (pc := 63) (off := -57) 6 (by decide +kernel) (by decide) ?_
  refine S_sub [1, 2, 3, 0] rfl ?_
  exact hr6 a0 a1 a2 v1 h
theorem pX4_slopeFalls_b58 {h0 : xH} {r6 : Nat → Int32 → Int32 → Int32 → xH → Option (Int32 × xH)} (hr6 : ∀  (a0 : Nat) (a1 : Int32) (a2 : Int32) (a3 : Int32) (g : xH), S emI kX4_slopeFalls h0 6 [(0, .ref a0), (1, .int a1), (2, .int a2), (3, .int a3)] [] g (r6  a0 a1 a2 a3 g))  (a0 : Nat) (a1 : Int32) (a3 : Int32) (h : xH) : S emI kX4_slopeFalls h0 58 [(0, .ref a0), (1, .int a1), (3, .int a3)] [] h (fX4_slopeFalls_b58 r6 a0 a1 a3 h) := by
  unfold fX4_slopeFalls_b58
  refine s_iload_n (pc := 58) (k0 := 3) (i := 3) rfl 2 rfl (by decide +kernel) ?_
  refine s_istore_n (pc := 59) (L' := [(2, .int a3), (0, .ref a0), (1, .int a1), (3, .int a3)]) (k0 := 2) (i := 2) rfl (by decide) rfl (by decide +kernel) ?_
  refine S_sub [1, 2, 0, 3] rfl ?_
  exact pX4_slopeFalls_b60 hr6 a0 a1 a3 a3 h
theorem pX4_slopeFalls_b6 {h0 : xH} {r6 : Nat → Int32 → Int32 → Int32 → xH → Option (Int32 × xH)} (hr6 : ∀  (a0 : Nat) (a1 : Int32) (a2 : Int32) (a3 : Int32) (g : xH), S emI kX4_slopeFalls h0 6 [(0, .ref a0), (1, .int a1), (2, .int a2), (3, .int a3)] [] g (r6  a0 a1 a2 a3 g))  (a0 : Nat) (a1 : Int32) (a2 : Int32) (a3 : Int32) (h : xH) : S emI kX4_slopeFalls h0 6 [(0, .ref a0), (1, .int a1), (2, .int a2), (3, .int a3)] [] h (fX4_slopeFalls_b6 r6 a0 a1 a2 a3 h) := by
  unfold fX4_slopeFalls_b6
  refine s_iload_n (pc := 6) (k0 := 3) (i := 3) rfl 3 rfl (by decide +kernel) ?_
  refine s_aload_n (pc := 7) (k0 := 0) (i := 0) rfl 0 rfl (by decide +kernel) ?_
  refine S_gd (fun c1 => ?_)
  refine s_getI (pc := 8) (k := 0) c1 ft_X4_9 rfl (by decide +kernel) ?_
  refine s_icmp_ge (pc := 11) (off := 55) 66 (by decide +kernel) (by decide) (fun _ => ?_) (fun _ => ?_)
  · refine s_iload_n (pc := 66) (k0 := 1) (i := 1) rfl 1 rfl (by decide +kernel) ?_
    exact s_iret (pc := 67) rfl (by decide +kernel)
  · refine s_aload_n (pc := 14) (k0 := 0) (i := 0) rfl 0 rfl (by decide +kernel) ?_
    refine s_iload_n (pc := 15) (k0 := 3) (i := 3) rfl 3 rfl (by decide +kernel) ?_
    refine s_cVi (pc := 16) [.int a3] (tX4_hasLine a0 a3 h) c1 cw_X4_67 rfl ⟨⟨Nat.le_of_ble_eq_true rfl, Nat.le_of_ble_eq_true rfl⟩, Nat.le_of_ble_eq_true rfl⟩ rfl (by decide +kernel) (fun w4 g2 e3 => ?_)
    refine s_if_ne (pc := 19) (off := 6) 25 (by decide +kernel) (by decide) (fun _ => ?_) (fun _ => ?_)
    · refine s_goto (pc := 22) (off := 38) 60 (by decide +kernel) (by decide) ?_
      exact pX4_slopeFalls_b60 hr6 a0 a1 a2 a3 g2
    · refine s_iload_n (pc := 25) (k0 := 2) (i := 2) rfl 2 rfl (by decide +kernel) ?_
      refine s_if_lt (pc := 26) (off := 32) 58 (by decide +kernel) (by decide) (fun _ => ?_) (fun _ => ?_)
      · refine S_sub [0, 1, 3] rfl ?_
        exact pX4_slopeFalls_b58 hr6 a0 a1 a3 g2
      · refine s_aload_n (pc := 29) (k0 := 0) (i := 0) rfl 0 rfl (by decide +kernel) ?_
        refine s_iload_n (pc := 30) (k0 := 3) (i := 3) rfl 3 rfl (by decide +kernel) ?_
        have c5 := kp e3 c1 (by decide)
        refine s_cVj (pc := 31) [.int a3] (tX4_riseOf a0 a3 g2) c5 cw_X4_75 rfl ⟨⟨Nat.le_of_ble_eq_true rfl, Nat.le_of_ble_eq_true rfl⟩, Nat.le_of_ble_eq_true rfl⟩ rfl (by decide +kernel) (fun w8 g6 e7 => ?_)
        refine s_aload_n (pc := 34) (k0 := 0) (i := 0) rfl 0 rfl (by decide +kernel) ?_
        refine s_iload_n (pc := 35) (k0 := 2) (i := 2) rfl 2 rfl (by decide +kernel) ?_
        have c9 := kp e7 c5 (by decide)
        refine s_cVj (pc := 36) [.int a2] (tX4_runOf a0 a2 g6) c9 cw_X4_71 rfl ⟨⟨Nat.le_of_ble_eq_true rfl, Nat.le_of_ble_eq_true rfl⟩, Nat.le_of_ble_eq_true rfl⟩ rfl (by decide +kernel) (fun w12 g10 e11 => ?_)
        refine s_lmul (pc := 39) (by decide +kernel) ?_
        refine s_aload_n (pc := 40) (k0 := 0) (i := 0) rfl 0 rfl (by decide +kernel) ?_
        refine s_iload_n (pc := 41) (k0 := 2) (i := 2) rfl 2 rfl (by decide +kernel) ?_
        have c13 := kp e11 c9 (by decide)
        refine s_cVj (pc := 42) [.int a2] (tX4_riseOf a0 a2 g10) c13 cw_X4_75 rfl ⟨⟨Nat.le_of_ble_eq_true rfl, Nat.le_of_ble_eq_true rfl⟩, Nat.le_of_ble_eq_true rfl⟩ rfl (by decide +kernel) (fun w16 g14 e15 => ?_)
        refine s_aload_n (pc := 45) (k0 := 0) (i := 0) rfl 0 rfl (by decide +kernel) ?_
        refine s_iload_n (pc := 46) (k0 := 3) (i := 3) rfl 3 rfl (by decide +kernel) ?_
        have c17 := kp e15 c13 (by decide)
        refine s_cVj (pc := 47) [.int a3] (tX4_runOf a0 a3 g14) c17 cw_X4_71 rfl ⟨⟨Nat.le_of_ble_eq_true rfl, Nat.le_of_ble_eq_true rfl⟩, Nat.le_of_ble_eq_true rfl⟩ rfl (by decide +kernel) (fun w20 g18 e19 => ?_)
        refine s_lmul (pc := 50) (by decide +kernel) ?_
        refine s_lcmp (pc := 51) (by decide +kernel) ?_
        refine s_if_ge (pc := 52) (off := 6) 58 (by decide +kernel) (by decide) (fun _ => ?_) (fun _ => ?_)
        · refine S_sub [0, 1, 3] rfl ?_
          exact pX4_slopeFalls_b58 hr6 a0 a1 a3 g18
        · refine s_iinc (pc := 55) (L' := [(1, .int (a1 + (1 : Int32))), (0, .ref a0), (2, .int a2), (3, .int a3)]) (i := 1) (n := 1) 1 rfl rfl (by decide) rfl (by decide +kernel) ?_
          refine s_nmI0 (e := a1 + (1 : Int32)) (L := fun v21 => [(1, .int v21), (0, .ref a0), (2, .int a2), (3, .int a3)]) (fun v21 => ?_)
          refine S_sub [1, 0, 3] rfl ?_
          exact pX4_slopeFalls_b58 hr6 a0 v21 a3 g18
theorem pX4_slopeFalls_l6 {h0 : xH}   : ∀ (k : Nat)  (a0 : Nat) (a1 : Int32) (a2 : Int32) (a3 : Int32) (h : xH), S emI kX4_slopeFalls h0 6 [(0, .ref a0), (1, .int a1), (2, .int a2), (3, .int a3)] [] h (fX4_slopeFalls_l6  k  a0 a1 a2 a3 h) := by
  intro k
  induction k with
  | zero => intros; exact S_none
  | succ k ih => intro  a0 a1 a2 a3 h; exact pX4_slopeFalls_b6 ih  a0 a1 a2 a3 h
theorem pX4_slopeFalls_e    (a0 : Nat) (h : xH) : S emI kX4_slopeFalls h 0 [(0, .ref a0)] [] h (fX4_slopeFalls  a0 h) := by
  unfold fX4_slopeFalls
  refine s_iconst (pc := 0) (n := 0) (v := (0 : Int32)) (by decide) (by decide +kernel) ?_
  refine s_nmI (fun v1 => ?_)
  refine s_istore_n (pc := 1) (L' := [(1, .int v1), (0, .ref a0)]) (k0 := 1) (i := 1) rfl (by decide) rfl (by decide +kernel) ?_
  refine s_iconst (pc := 2) (n := -1) (v := (-1 : Int32)) (by decide) (by decide +kernel) ?_
  refine s_nmI (fun v2 => ?_)
  refine s_istore_n (pc := 3) (L' := [(2, .int v2), (1, .int v1), (0, .ref a0)]) (k0 := 2) (i := 2) rfl (by decide) rfl (by decide +kernel) ?_
  refine s_iconst (pc := 4) (n := 0) (v := (0 : Int32)) (by decide) (by decide +kernel) ?_
  refine s_nmI (fun v3 => ?_)
  refine s_istore_n (pc := 5) (L' := [(3, .int v3), (2, .int v2), (1, .int v1), (0, .ref a0)]) (k0 := 3) (i := 3) rfl (by decide) rfl (by decide +kernel) ?_
  refine S_sub [3, 2, 1, 0] rfl ?_
  exact pX4_slopeFalls_l6 FU a0 v1 v2 v3 h
theorem tX4_slopeFalls (a0 : Nat) (h : xH) : Ct yX4_slopeFalls kX4_slopeFalls emI [.ref a0] h (fX4_slopeFalls a0 h) := Ct_of (by decide +kernel) rfl rfl rfl (Nat.le_of_ble_eq_true rfl) rfl (pX4_slopeFalls_e a0 h)
def fX4_width_b4 (r4 : Nat → Int64 → Int32 → xH → Option (Int32 × xH))  (a0 : Nat) (a1 : Int64) (a3 : Int32) (h : xH) : Option (Int32 × xH) :=
  if kc h a0 = 4 then
  if (hI h a0 0) ≤ a3 then (
  some (a1.toInt32, h))
  else (
  bd (fX4_runOf a0 a3 h) (fun w4 g2 =>
  lt (a1 + w4) (fun v5 =>
  lt (a3 + (1 : Int32)) (fun v6 =>
  r4 a0 v5 v6 g2))))
  else none
def fX4_width_l4  : Nat → Nat → Int64 → Int32 → xH → Option (Int32 × xH)
  | 0 => fun _ _ _ _ => none
  | k + 1 => fX4_width_b4 (fX4_width_l4  k)
def fX4_width   (a0 : Nat) (h : xH) : Option (Int32 × xH) :=
  lt (0 : Int64) (fun v1 =>
  lt (0 : Int32) (fun v2 =>
  fX4_width_l4 FU a0 v1 v2 h))
theorem pX4_width_b4 {h0 : xH} {r4 : Nat → Int64 → Int32 → xH → Option (Int32 × xH)} (hr4 : ∀  (a0 : Nat) (a1 : Int64) (a3 : Int32) (g : xH), S emI kX4_width h0 4 [(0, .ref a0), (1, .long a1), (3, .int a3)] [] g (r4  a0 a1 a3 g))  (a0 : Nat) (a1 : Int64) (a3 : Int32) (h : xH) : S emI kX4_width h0 4 [(0, .ref a0), (1, .long a1), (3, .int a3)] [] h (fX4_width_b4 r4 a0 a1 a3 h) := by
  unfold fX4_width_b4
  refine s_iload_n (pc := 4) (k0 := 3) (i := 3) rfl 2 rfl (by decide +kernel) ?_
  refine s_aload_n (pc := 5) (k0 := 0) (i := 0) rfl 0 rfl (by decide +kernel) ?_
  refine S_gd (fun c1 => ?_)
  refine s_getI (pc := 6) (k := 0) c1 ft_X4_9 rfl (by decide +kernel) ?_
  refine s_icmp_ge (pc := 9) (off := 17) 26 (by decide +kernel) (by decide) (fun _ => ?_) (fun _ => ?_)
  · refine s_lload_n (pc := 26) (k0 := 1) (i := 1) rfl 1 rfl (by decide +kernel) ?_
    refine s_l2i (pc := 27) (by decide +kernel) ?_
    exact s_iret (pc := 28) rfl (by decide +kernel)
  · refine s_lload_n (pc := 12) (k0 := 1) (i := 1) rfl 1 rfl (by decide +kernel) ?_
    refine s_aload_n (pc := 13) (k0 := 0) (i := 0) rfl 0 rfl (by decide +kernel) ?_
    refine s_iload_n (pc := 14) (k0 := 3) (i := 3) rfl 2 rfl (by decide +kernel) ?_
    refine s_cVj (pc := 15) [.int a3] (tX4_runOf a0 a3 h) c1 cw_X4_71 rfl ⟨⟨Nat.le_of_ble_eq_true rfl, Nat.le_of_ble_eq_true rfl⟩, Nat.le_of_ble_eq_true rfl⟩ rfl (by decide +kernel) (fun w4 g2 e3 => ?_)
    refine s_ladd (pc := 18) (by decide +kernel) ?_
    refine s_nmJ (fun v5 => ?_)
    refine s_lstore_n (pc := 19) (L' := [(1, .long v5), (0, .ref a0), (3, .int a3)]) (k0 := 1) (i := 1) rfl (by decide) rfl (by decide +kernel) ?_
    refine s_iinc (pc := 20) (L' := [(3, .int (a3 + (1 : Int32))), (1, .long v5), (0, .ref a0)]) (i := 3) (n := 1) 2 rfl rfl (by decide) rfl (by decide +kernel) ?_
    refine s_nmI0 (e := a3 + (1 : Int32)) (L := fun v6 => [(3, .int v6), (1, .long v5), (0, .ref a0)]) (fun v6 => ?_)
    refine s_goto (pc := 23) (off := -19) 4 (by decide +kernel) (by decide) ?_
    refine S_sub [2, 1, 0] rfl ?_
    exact hr4 a0 v5 v6 g2
theorem pX4_width_l4 {h0 : xH}   : ∀ (k : Nat)  (a0 : Nat) (a1 : Int64) (a3 : Int32) (h : xH), S emI kX4_width h0 4 [(0, .ref a0), (1, .long a1), (3, .int a3)] [] h (fX4_width_l4  k  a0 a1 a3 h) := by
  intro k
  induction k with
  | zero => intros; exact S_none
  | succ k ih => intro  a0 a1 a3 h; exact pX4_width_b4 ih  a0 a1 a3 h
theorem pX4_width_e    (a0 : Nat) (h : xH) : S emI kX4_width h 0 [(0, .ref a0)] [] h (fX4_width  a0 h) := by
  unfold fX4_width
  refine s_lconst (pc := 0) (n := 0) (v := (0 : Int64)) (by decide) (by decide +kernel) ?_
  refine s_nmJ (fun v1 => ?_)
  refine s_lstore_n (pc := 1) (L' := [(1, .long v1), (0, .ref a0)]) (k0 := 1) (i := 1) rfl (by decide) rfl (by decide +kernel) ?_
  refine s_iconst (pc := 2) (n := 0) (v := (0 : Int32)) (by decide) (by decide +kernel) ?_
  refine s_nmI (fun v2 => ?_)
  refine s_istore_n (pc := 3) (L' := [(3, .int v2), (1, .long v1), (0, .ref a0)]) (k0 := 3) (i := 3) rfl (by decide) rfl (by decide +kernel) ?_
  refine S_sub [2, 1, 0] rfl ?_
  exact pX4_width_l4 FU a0 v1 v2 h
theorem tX4_width (a0 : Nat) (h : xH) : Ct yX4_width kX4_width emI [.ref a0] h (fX4_width a0 h) := Ct_of (by decide +kernel) rfl rfl rfl (Nat.le_of_ble_eq_true rfl) rfl (pX4_width_e a0 h)
def fX4_firstLowest_b30 (r4 : Nat → Int32 → Int32 → xH → Option (Int32 × xH))  (a0 : Nat) (a1 : Int32) (a2 : Int32) (h : xH) : Option (Int32 × xH) :=
  lt (a2 + (1 : Int32)) (fun v1 =>
  r4 a0 a1 v1 h)
def fX4_firstLowest_b4 (r4 : Nat → Int32 → Int32 → xH → Option (Int32 × xH))  (a0 : Nat) (a1 : Int32) (a2 : Int32) (h : xH) : Option (Int32 × xH) :=
  if kc h a0 = 4 then
  if (hI h a0 0) ≤ a2 then (
  some (a1, h))
  else (
  if kc h (hR h a0 3) = 9 then
  if ix a2 (kl h (hR h a0 3)) then
  if ix a1 (kl h (hR h a0 3)) then
  if 0 ≤ (lg_cmp (hJ h (hR h a0 3) a2.toNatClampNeg) (hJ h (hR h a0 3) a1.toNatClampNeg)) then (
  fX4_firstLowest_b30 r4 a0 a1 a2 h)
  else (
  fX4_firstLowest_b30 r4 a0 a2 a2 h)
  else none
  else none
  else none)
  else none
def fX4_firstLowest_l4  : Nat → Nat → Int32 → Int32 → xH → Option (Int32 × xH)
  | 0 => fun _ _ _ _ => none
  | k + 1 => fX4_firstLowest_b4 (fX4_firstLowest_l4  k)
def fX4_firstLowest   (a0 : Nat) (h : xH) : Option (Int32 × xH) :=
  lt (0 : Int32) (fun v1 =>
  lt (1 : Int32) (fun v2 =>
  fX4_firstLowest_l4 FU a0 v1 v2 h))
theorem pX4_firstLowest_b30 {h0 : xH} {r4 : Nat → Int32 → Int32 → xH → Option (Int32 × xH)} (hr4 : ∀  (a0 : Nat) (a1 : Int32) (a2 : Int32) (g : xH), S emI kX4_firstLowest h0 4 [(0, .ref a0), (1, .int a1), (2, .int a2)] [] g (r4  a0 a1 a2 g))  (a0 : Nat) (a1 : Int32) (a2 : Int32) (h : xH) : S emI kX4_firstLowest h0 30 [(0, .ref a0), (1, .int a1), (2, .int a2)] [] h (fX4_firstLowest_b30 r4 a0 a1 a2 h) := by
  unfold fX4_firstLowest_b30
  refine s_iinc (pc := 30) (L' := [(2, .int (a2 + (1 : Int32))), (0, .ref a0), (1, .int a1)]) (i := 2) (n := 1) 2 rfl rfl (by decide) rfl (by decide +kernel) ?_
  refine s_nmI0 (e := a2 + (1 : Int32)) (L := fun v1 => [(2, .int v1), (0, .ref a0), (1, .int a1)]) (fun v1 => ?_)
  refine s_goto (pc := 33) (off := -29) 4 (by decide +kernel) (by decide) ?_
  refine S_sub [1, 2, 0] rfl ?_
  exact hr4 a0 a1 v1 h
theorem pX4_firstLowest_b4 {h0 : xH} {r4 : Nat → Int32 → Int32 → xH → Option (Int32 × xH)} (hr4 : ∀  (a0 : Nat) (a1 : Int32) (a2 : Int32) (g : xH), S emI kX4_firstLowest h0 4 [(0, .ref a0), (1, .int a1), (2, .int a2)] [] g (r4  a0 a1 a2 g))  (a0 : Nat) (a1 : Int32) (a2 : Int32) (h : xH) : S emI kX4_firstLowest h0 4 [(0, .ref a0), (1, .int a1), (2, .int a2)] [] h (fX4_firstLowest_b4 r4 a0 a1 a2 h) := by
  unfold fX4_firstLowest_b4
  refine s_iload_n (pc := 4) (k0 := 2) (i := 2) rfl 2 rfl (by decide +kernel) ?_
  refine s_aload_n (pc := 5) (k0 := 0) (i := 0) rfl 0 rfl (by decide +kernel) ?_
  refine S_gd (fun c1 => ?_)
  refine s_getI (pc := 6) (k := 0) c1 ft_X4_9 rfl (by decide +kernel) ?_
  refine s_icmp_ge (pc := 9) (off := 27) 36 (by decide +kernel) (by decide) (fun _ => ?_) (fun _ => ?_)
  · refine s_iload_n (pc := 36) (k0 := 1) (i := 1) rfl 1 rfl (by decide +kernel) ?_
    exact s_iret (pc := 37) rfl (by decide +kernel)
  · refine s_aload_n (pc := 12) (k0 := 0) (i := 0) rfl 0 rfl (by decide +kernel) ?_
    refine s_getR (pc := 13) (k := 3) c1 ft_X4_22 rfl (by decide +kernel) ?_
    refine s_iload_n (pc := 16) (k0 := 2) (i := 2) rfl 2 rfl (by decide +kernel) ?_
    refine S_gd (fun c2 => ?_)
    refine S_gd (fun c3 => ?_)
    refine s_lald (pc := 17) c2 c3 (by decide +kernel) ?_
    refine s_aload_n (pc := 18) (k0 := 0) (i := 0) rfl 0 rfl (by decide +kernel) ?_
    refine s_getR (pc := 19) (k := 3) c1 ft_X4_22 rfl (by decide +kernel) ?_
    refine s_iload_n (pc := 22) (k0 := 1) (i := 1) rfl 1 rfl (by decide +kernel) ?_
    refine S_gd (fun c4 => ?_)
    refine s_lald (pc := 23) c2 c4 (by decide +kernel) ?_
    refine s_lcmp (pc := 24) (by decide +kernel) ?_
    refine s_if_ge (pc := 25) (off := 5) 30 (by decide +kernel) (by decide) (fun _ => ?_) (fun _ => ?_)
    · exact pX4_firstLowest_b30 hr4 a0 a1 a2 h
    · refine s_iload_n (pc := 28) (k0 := 2) (i := 2) rfl 2 rfl (by decide +kernel) ?_
      refine s_istore_n (pc := 29) (L' := [(1, .int a2), (0, .ref a0), (2, .int a2)]) (k0 := 1) (i := 1) rfl (by decide) rfl (by decide +kernel) ?_
      refine S_sub [1, 0, 2] rfl ?_
      exact pX4_firstLowest_b30 hr4 a0 a2 a2 h
theorem pX4_firstLowest_l4 {h0 : xH}   : ∀ (k : Nat)  (a0 : Nat) (a1 : Int32) (a2 : Int32) (h : xH), S emI kX4_firstLowest h0 4 [(0, .ref a0), (1, .int a1), (2, .int a2)] [] h (fX4_firstLowest_l4  k  a0 a1 a2 h) := by
  intro k
  induction k with
  | zero => intros; exact S_none
  | succ k ih => intro  a0 a1 a2 h; exact pX4_firstLowest_b4 ih  a0 a1 a2 h
theorem pX4_firstLowest_e    (a0 : Nat) (h : xH) : S emI kX4_firstLowest h 0 [(0, .ref a0)] [] h (fX4_firstLowest  a0 h) := by
  unfold fX4_firstLowest
  refine s_iconst (pc := 0) (n := 0) (v := (0 : Int32)) (by decide) (by decide +kernel) ?_
  refine s_nmI (fun v1 => ?_)
  refine s_istore_n (pc := 1) (L' := [(1, .int v1), (0, .ref a0)]) (k0 := 1) (i := 1) rfl (by decide) rfl (by decide +kernel) ?_
  refine s_iconst (pc := 2) (n := 1) (v := (1 : Int32)) (by decide) (by decide +kernel) ?_
  refine s_nmI (fun v2 => ?_)
  refine s_istore_n (pc := 3) (L' := [(2, .int v2), (1, .int v1), (0, .ref a0)]) (k0 := 2) (i := 2) rfl (by decide) rfl (by decide +kernel) ?_
  refine S_sub [2, 1, 0] rfl ?_
  exact pX4_firstLowest_l4 FU a0 v1 v2 h
theorem tX4_firstLowest (a0 : Nat) (h : xH) : Ct yX4_firstLowest kX4_firstLowest emI [.ref a0] h (fX4_firstLowest a0 h) := Ct_of (by decide +kernel) rfl rfl rfl (Nat.le_of_ble_eq_true rfl) rfl (pX4_firstLowest_e a0 h)
def fX4_lastLowest_b30 (r4 : Nat → Int32 → Int32 → xH → Option (Int32 × xH))  (a0 : Nat) (a1 : Int32) (a2 : Int32) (h : xH) : Option (Int32 × xH) :=
  lt (a2 + (1 : Int32)) (fun v1 =>
  r4 a0 a1 v1 h)
def fX4_lastLowest_b4 (r4 : Nat → Int32 → Int32 → xH → Option (Int32 × xH))  (a0 : Nat) (a1 : Int32) (a2 : Int32) (h : xH) : Option (Int32 × xH) :=
  if kc h a0 = 4 then
  if (hI h a0 0) ≤ a2 then (
  some (a1, h))
  else (
  if kc h (hR h a0 3) = 9 then
  if ix a2 (kl h (hR h a0 3)) then
  if ix a1 (kl h (hR h a0 3)) then
  if 0 < (lg_cmp (hJ h (hR h a0 3) a2.toNatClampNeg) (hJ h (hR h a0 3) a1.toNatClampNeg)) then (
  fX4_lastLowest_b30 r4 a0 a1 a2 h)
  else (
  fX4_lastLowest_b30 r4 a0 a2 a2 h)
  else none
  else none
  else none)
  else none
def fX4_lastLowest_l4  : Nat → Nat → Int32 → Int32 → xH → Option (Int32 × xH)
  | 0 => fun _ _ _ _ => none
  | k + 1 => fX4_lastLowest_b4 (fX4_lastLowest_l4  k)
def fX4_lastLowest   (a0 : Nat) (h : xH) : Option (Int32 × xH) :=
  lt (0 : Int32) (fun v1 =>
  lt (1 : Int32) (fun v2 =>
  fX4_lastLowest_l4 FU a0 v1 v2 h))
theorem pX4_lastLowest_b30 {h0 : xH} {r4 : Nat → Int32 → Int32 → xH → Option (Int32 × xH)} (hr4 : ∀  (a0 : Nat) (a1 : Int32) (a2 : Int32) (g : xH), S emI kX4_lastLowest h0 4 [(0, .ref a0), (1, .int a1), (2, .int a2)] [] g (r4  a0 a1 a2 g))  (a0 : Nat) (a1 : Int32) (a2 : Int32) (h : xH) : S emI kX4_lastLowest h0 30 [(0, .ref a0), (1, .int a1), (2, .int a2)] [] h (fX4_lastLowest_b30 r4 a0 a1 a2 h) := by
  unfold fX4_lastLowest_b30
  refine s_iinc (pc := 30) (L' := [(2, .int (a2 + (1 : Int32))), (0, .ref a0), (1, .int a1)]) (i := 2) (n := 1) 2 rfl rfl (by decide) rfl (by decide +kernel) ?_
  refine s_nmI0 (e := a2 + (1 : Int32)) (L := fun v1 => [(2, .int v1), (0, .ref a0), (1, .int a1)]) (fun v1 => ?_)
  refine s_goto (pc := 33) (off := -29) 4 (by decide +kernel) (by decide) ?_
  refine S_sub [1, 2, 0] rfl ?_
  exact hr4 a0 a1 v1 h
theorem pX4_lastLowest_b4 {h0 : xH} {r4 : Nat → Int32 → Int32 → xH → Option (Int32 × xH)} (hr4 : ∀  (a0 : Nat) (a1 : Int32) (a2 : Int32) (g : xH), S emI kX4_lastLowest h0 4 [(0, .ref a0), (1, .int a1), (2, .int a2)] [] g (r4  a0 a1 a2 g))  (a0 : Nat) (a1 : Int32) (a2 : Int32) (h : xH) : S emI kX4_lastLowest h0 4 [(0, .ref a0), (1, .int a1), (2, .int a2)] [] h (fX4_lastLowest_b4 r4 a0 a1 a2 h) := by
  unfold fX4_lastLowest_b4
  refine s_iload_n (pc := 4) (k0 := 2) (i := 2) rfl 2 rfl (by decide +kernel) ?_
  refine s_aload_n (pc := 5) (k0 := 0) (i := 0) rfl 0 rfl (by decide +kernel) ?_
  refine S_gd (fun c1 => ?_)
  refine s_getI (pc := 6) (k := 0) c1 ft_X4_9 rfl (by decide +kernel) ?_
  refine s_icmp_ge (pc := 9) (off := 27) 36 (by decide +kernel) (by decide) (fun _ => ?_) (fun _ => ?_)
  · refine s_iload_n (pc := 36) (k0 := 1) (i := 1) rfl 1 rfl (by decide +kernel) ?_
    exact s_iret (pc := 37) rfl (by decide +kernel)
  · refine s_aload_n (pc := 12) (k0 := 0) (i := 0) rfl 0 rfl (by decide +kernel) ?_
    refine s_getR (pc := 13) (k := 3) c1 ft_X4_22 rfl (by decide +kernel) ?_
    refine s_iload_n (pc := 16) (k0 := 2) (i := 2) rfl 2 rfl (by decide +kernel) ?_
    refine S_gd (fun c2 => ?_)
    refine S_gd (fun c3 => ?_)
    refine s_lald (pc := 17) c2 c3 (by decide +kernel) ?_
    refine s_aload_n (pc := 18) (k0 := 0) (i := 0) rfl 0 rfl (by decide +kernel) ?_
    refine s_getR (pc := 19) (k := 3) c1 ft_X4_22 rfl (by decide +kernel) ?_
    refine s_iload_n (pc := 22) (k0 := 1) (i := 1) rfl 1 rfl (by decide +kernel) ?_
    refine S_gd (fun c4 => ?_)
    refine s_lald (pc := 23) c2 c4 (by decide +kernel) ?_
    refine s_lcmp (pc := 24) (by decide +kernel) ?_
    refine s_if_gt (pc := 25) (off := 5) 30 (by decide +kernel) (by decide) (fun _ => ?_) (fun _ => ?_)
    · exact pX4_lastLowest_b30 hr4 a0 a1 a2 h
    · refine s_iload_n (pc := 28) (k0 := 2) (i := 2) rfl 2 rfl (by decide +kernel) ?_
      refine s_istore_n (pc := 29) (L' := [(1, .int a2), (0, .ref a0), (2, .int a2)]) (k0 := 1) (i := 1) rfl (by decide) rfl (by decide +kernel) ?_
      refine S_sub [1, 0, 2] rfl ?_
      exact pX4_lastLowest_b30 hr4 a0 a2 a2 h
theorem pX4_lastLowest_l4 {h0 : xH}   : ∀ (k : Nat)  (a0 : Nat) (a1 : Int32) (a2 : Int32) (h : xH), S emI kX4_lastLowest h0 4 [(0, .ref a0), (1, .int a1), (2, .int a2)] [] h (fX4_lastLowest_l4  k  a0 a1 a2 h) := by
  intro k
  induction k with
  | zero => intros; exact S_none
  | succ k ih => intro  a0 a1 a2 h; exact pX4_lastLowest_b4 ih  a0 a1 a2 h
theorem pX4_lastLowest_e    (a0 : Nat) (h : xH) : S emI kX4_lastLowest h 0 [(0, .ref a0)] [] h (fX4_lastLowest  a0 h) := by
  unfold fX4_lastLowest
  refine s_iconst (pc := 0) (n := 0) (v := (0 : Int32)) (by decide) (by decide +kernel) ?_
  refine s_nmI (fun v1 => ?_)
  refine s_istore_n (pc := 1) (L' := [(1, .int v1), (0, .ref a0)]) (k0 := 1) (i := 1) rfl (by decide) rfl (by decide +kernel) ?_
  refine s_iconst (pc := 2) (n := 1) (v := (1 : Int32)) (by decide) (by decide +kernel) ?_
  refine s_nmI (fun v2 => ?_)
  refine s_istore_n (pc := 3) (L' := [(2, .int v2), (1, .int v1), (0, .ref a0)]) (k0 := 2) (i := 2) rfl (by decide) rfl (by decide +kernel) ?_
  refine S_sub [2, 1, 0] rfl ?_
  exact pX4_lastLowest_l4 FU a0 v1 v2 h
theorem tX4_lastLowest (a0 : Nat) (h : xH) : Ct yX4_lastLowest kX4_lastLowest emI [.ref a0] h (fX4_lastLowest a0 h) := Ct_of (by decide +kernel) rfl rfl rfl (Nat.le_of_ble_eq_true rfl) rfl (pX4_lastLowest_e a0 h)
def fX4_highest_b9 (r9 : Nat → Int64 → Int32 → xH → Option (Int32 × xH))  (a0 : Nat) (a1 : Int64) (a3 : Int32) (h : xH) : Option (Int32 × xH) :=
  if kc h a0 = 4 then
  if (hI h a0 0) ≤ a3 then (
  some (a1.toInt32, h))
  else (
  if kc h (hR h a0 3) = 9 then
  if ix a3 (kl h (hR h a0 3)) then
  bd (fJ9_max_f86c9 a1 (hJ h (hR h a0 3) a3.toNatClampNeg) h) (fun w6 g4 =>
  lt (a3 + (1 : Int32)) (fun v7 =>
  r9 a0 w6 v7 g4))
  else none
  else none)
  else none
def fX4_highest_l9  : Nat → Nat → Int64 → Int32 → xH → Option (Int32 × xH)
  | 0 => fun _ _ _ _ => none
  | k + 1 => fX4_highest_b9 (fX4_highest_l9  k)
def fX4_highest   (a0 : Nat) (h : xH) : Option (Int32 × xH) :=
  if kc h a0 = 4 then
  if kc h (hR h a0 3) = 9 then
  if ix (0 : Int32) (kl h (hR h a0 3)) then
  lt (hJ h (hR h a0 3) (0 : Int32).toNatClampNeg) (fun v4 =>
  lt (1 : Int32) (fun v5 =>
  fX4_highest_l9 FU a0 v4 v5 h))
  else none
  else none
  else none
theorem pX4_highest_b9 {h0 : xH} {r9 : Nat → Int64 → Int32 → xH → Option (Int32 × xH)} (hr9 : ∀  (a0 : Nat) (a1 : Int64) (a3 : Int32) (g : xH), S emI kX4_highest h0 9 [(0, .ref a0), (1, .long a1), (3, .int a3)] [] g (r9  a0 a1 a3 g))  (a0 : Nat) (a1 : Int64) (a3 : Int32) (h : xH) : S emI kX4_highest h0 9 [(0, .ref a0), (1, .long a1), (3, .int a3)] [] h (fX4_highest_b9 r9 a0 a1 a3 h) := by
  unfold fX4_highest_b9
  refine s_iload_n (pc := 9) (k0 := 3) (i := 3) rfl 2 rfl (by decide +kernel) ?_
  refine s_aload_n (pc := 10) (k0 := 0) (i := 0) rfl 0 rfl (by decide +kernel) ?_
  refine S_gd (fun c1 => ?_)
  refine s_getI (pc := 11) (k := 0) c1 ft_X4_9 rfl (by decide +kernel) ?_
  refine s_icmp_ge (pc := 14) (off := 20) 34 (by decide +kernel) (by decide) (fun _ => ?_) (fun _ => ?_)
  · refine s_lload_n (pc := 34) (k0 := 1) (i := 1) rfl 1 rfl (by decide +kernel) ?_
    refine s_l2i (pc := 35) (by decide +kernel) ?_
    exact s_iret (pc := 36) rfl (by decide +kernel)
  · refine s_lload_n (pc := 17) (k0 := 1) (i := 1) rfl 1 rfl (by decide +kernel) ?_
    refine s_aload_n (pc := 18) (k0 := 0) (i := 0) rfl 0 rfl (by decide +kernel) ?_
    refine s_getR (pc := 19) (k := 3) c1 ft_X4_22 rfl (by decide +kernel) ?_
    refine s_iload_n (pc := 22) (k0 := 3) (i := 3) rfl 2 rfl (by decide +kernel) ?_
    refine S_gd (fun c2 => ?_)
    refine S_gd (fun c3 => ?_)
    refine s_lald (pc := 23) c2 c3 (by decide +kernel) ?_
    refine s_cSj (pc := 24) [.long a1, .long (hJ h (hR h a0 3) a3.toNatClampNeg)] (tJ9_max_f86c9 a1 (hJ h (hR h a0 3) a3.toNatClampNeg) h) cw_X4_89 rfl ⟨⟨Nat.le_of_ble_eq_true rfl, Nat.le_of_ble_eq_true rfl⟩, Nat.le_of_ble_eq_true rfl⟩ rfl (by decide +kernel) (fun w6 g4 e5 => ?_)
    refine s_lstore_n (pc := 27) (L' := [(1, .long w6), (0, .ref a0), (3, .int a3)]) (k0 := 1) (i := 1) rfl (by decide) rfl (by decide +kernel) ?_
    refine s_iinc (pc := 28) (L' := [(3, .int (a3 + (1 : Int32))), (1, .long w6), (0, .ref a0)]) (i := 3) (n := 1) 2 rfl rfl (by decide) rfl (by decide +kernel) ?_
    refine s_nmI0 (e := a3 + (1 : Int32)) (L := fun v7 => [(3, .int v7), (1, .long w6), (0, .ref a0)]) (fun v7 => ?_)
    refine s_goto (pc := 31) (off := -22) 9 (by decide +kernel) (by decide) ?_
    refine S_sub [2, 1, 0] rfl ?_
    exact hr9 a0 w6 v7 g4
theorem pX4_highest_l9 {h0 : xH}   : ∀ (k : Nat)  (a0 : Nat) (a1 : Int64) (a3 : Int32) (h : xH), S emI kX4_highest h0 9 [(0, .ref a0), (1, .long a1), (3, .int a3)] [] h (fX4_highest_l9  k  a0 a1 a3 h) := by
  intro k
  induction k with
  | zero => intros; exact S_none
  | succ k ih => intro  a0 a1 a3 h; exact pX4_highest_b9 ih  a0 a1 a3 h
theorem pX4_highest_e    (a0 : Nat) (h : xH) : S emI kX4_highest h 0 [(0, .ref a0)] [] h (fX4_highest  a0 h) := by
  unfold fX4_highest
  refine s_aload_n (pc := 0) (k0 := 0) (i := 0) rfl 0 rfl (by decide +kernel) ?_
  refine S_gd (fun c1 => ?_)
  refine s_getR (pc := 1) (k := 3) c1 ft_X4_22 rfl (by decide +kernel) ?_
  refine s_iconst (pc := 4) (n := 0) (v := (0 : Int32)) (by decide) (by decide +kernel) ?_
  refine S_gd (fun c2 => ?_)
  refine S_gd (fun c3 => ?_)
  refine s_lald (pc := 5) c2 c3 (by decide +kernel) ?_
  refine s_nmJ (fun v4 => ?_)
  refine s_lstore_n (pc := 6) (L' := [(1, .long v4), (0, .ref a0)]) (k0 := 1) (i := 1) rfl (by decide) rfl (by decide +kernel) ?_
  refine s_iconst (pc := 7) (n := 1) (v := (1 : Int32)) (by decide) (by decide +kernel) ?_
  refine s_nmI (fun v5 => ?_)
  refine s_istore_n (pc := 8) (L' := [(3, .int v5), (1, .long v4), (0, .ref a0)]) (k0 := 3) (i := 3) rfl (by decide) rfl (by decide +kernel) ?_
  refine S_sub [2, 1, 0] rfl ?_
  exact pX4_highest_l9 FU a0 v4 v5 h
theorem tX4_highest (a0 : Nat) (h : xH) : Ct yX4_highest kX4_highest emI [.ref a0] h (fX4_highest a0 h) := Ct_of (by decide +kernel) rfl rfl rfl (Nat.le_of_ble_eq_true rfl) rfl (pX4_highest_e a0 h)
def fX4_knotOfLine_b30 (r4 : Nat → Int32 → Int32 → Int32 → xH → Option (Int32 × xH))  (a0 : Nat) (a1 : Int32) (a2 : Int32) (a3 : Int32) (h : xH) : Option (Int32 × xH) :=
  lt (a3 + (1 : Int32)) (fun v1 =>
  r4 a0 a1 a2 v1 h)
def fX4_knotOfLine_b4 (r4 : Nat → Int32 → Int32 → Int32 → xH → Option (Int32 × xH))  (a0 : Nat) (a1 : Int32) (a2 : Int32) (a3 : Int32) (h : xH) : Option (Int32 × xH) :=
  if kc h a0 = 4 then
  if (hI h a0 0) ≤ a3 then (
  some ((-1 : Int32), h))
  else (
  bd (fX4_hasLine a0 a3 h) (fun w4 g2 =>
  if w4 = 0 then (
  fX4_knotOfLine_b30 r4 a0 a1 a2 a3 g2)
  else (
  if a2 = a1 then (
  some (a3, g2))
  else (
  lt (a2 + (1 : Int32)) (fun v5 =>
  fX4_knotOfLine_b30 r4 a0 a1 v5 a3 g2)))))
  else none
def fX4_knotOfLine_l4  : Nat → Nat → Int32 → Int32 → Int32 → xH → Option (Int32 × xH)
  | 0 => fun _ _ _ _ _ => none
  | k + 1 => fX4_knotOfLine_b4 (fX4_knotOfLine_l4  k)
def fX4_knotOfLine   (a0 : Nat) (a1 : Int32) (h : xH) : Option (Int32 × xH) :=
  lt (0 : Int32) (fun v1 =>
  lt (0 : Int32) (fun v2 =>
  fX4_knotOfLine_l4 FU a0 a1 v1 v2 h))
theorem pX4_knotOfLine_b30 {h0 : xH} {r4 : Nat → Int32 → Int32 → Int32 → xH → Option (Int32 × xH)} (hr4 : ∀  (a0 : Nat) (a1 : Int32) (a2 : Int32) (a3 : Int32) (g : xH), S emI kX4_knotOfLine h0 4 [(0, .ref a0), (1, .int a1), (2, .int a2), (3, .int a3)] [] g (r4  a0 a1 a2 a3 g))  (a0 : Nat) (a1 : Int32) (a2 : Int32) (a3 : Int32) (h : xH) : S emI kX4_knotOfLine h0 30 [(0, .ref a0), (1, .int a1), (2, .int a2), (3, .int a3)] [] h (fX4_knotOfLine_b30 r4 a0 a1 a2 a3 h) := by
  unfold fX4_knotOfLine_b30
  refine s_iinc (pc := 30) (L' := [(3, .int (a3 + (1 : Int32))), (0, .ref a0), (1, .int a1), (2, .int a2)]) (i := 3) (n := 1) 3 rfl rfl (by decide) rfl (by decide +kernel) ?_
  refine s_nmI0 (e := a3 + (1 : Int32)) (L := fun v1 => [(3, .int v1), (0, .ref a0), (1, .int a1), (2, .int a2)]) (fun v1 => ?_)
  refine s_goto (pc := 33) (off := -29) 4 (by decide +kernel) (by decide) ?_
  refine S_sub [1, 2, 3, 0] rfl ?_
  exact hr4 a0 a1 a2 v1 h
theorem pX4_knotOfLine_b4 {h0 : xH} {r4 : Nat → Int32 → Int32 → Int32 → xH → Option (Int32 × xH)} (hr4 : ∀  (a0 : Nat) (a1 : Int32) (a2 : Int32) (a3 : Int32) (g : xH), S emI kX4_knotOfLine h0 4 [(0, .ref a0), (1, .int a1), (2, .int a2), (3, .int a3)] [] g (r4  a0 a1 a2 a3 g))  (a0 : Nat) (a1 : Int32) (a2 : Int32) (a3 : Int32) (h : xH) : S emI kX4_knotOfLine h0 4 [(0, .ref a0), (1, .int a1), (2, .int a2), (3, .int a3)] [] h (fX4_knotOfLine_b4 r4 a0 a1 a2 a3 h) := by
  unfold fX4_knotOfLine_b4
  refine s_iload_n (pc := 4) (k0 := 3) (i := 3) rfl 3 rfl (by decide +kernel) ?_
  refine s_aload_n (pc := 5) (k0 := 0) (i := 0) rfl 0 rfl (by decide +kernel) ?_
  refine S_gd (fun c1 => ?_)
  refine s_getI (pc := 6) (k := 0) c1 ft_X4_9 rfl (by decide +kernel) ?_
  refine s_icmp_ge (pc := 9) (off := 27) 36 (by decide +kernel) (by decide) (fun _ => ?_) (fun _ => ?_)
  · refine s_iconst (pc := 36) (n := -1) (v := (-1 : Int32)) (by decide) (by decide +kernel) ?_
    exact s_iret (pc := 37) rfl (by decide +kernel)
  · refine s_aload_n (pc := 12) (k0 := 0) (i := 0) rfl 0 rfl (by decide +kernel) ?_
    refine s_iload_n (pc := 13) (k0 := 3) (i := 3) rfl 3 rfl (by decide +kernel) ?_
    refine s_cVi (pc := 14) [.int a3] (tX4_hasLine a0 a3 h) c1 cw_X4_67 rfl ⟨⟨Nat.le_of_ble_eq_true rfl, Nat.le_of_ble_eq_true rfl⟩, Nat.le_of_ble_eq_true rfl⟩ rfl (by decide +kernel) (fun w4 g2 e3 => ?_)
    refine s_if_eq (pc := 17) (off := 13) 30 (by decide +kernel) (by decide) (fun _ => ?_) (fun _ => ?_)
    · exact pX4_knotOfLine_b30 hr4 a0 a1 a2 a3 g2
    · refine s_iload_n (pc := 20) (k0 := 2) (i := 2) rfl 2 rfl (by decide +kernel) ?_
      refine s_iload_n (pc := 21) (k0 := 1) (i := 1) rfl 1 rfl (by decide +kernel) ?_
      refine s_icmp_ne (pc := 22) (off := 5) 27 (by decide +kernel) (by decide) (fun _ => ?_) (fun _ => ?_)
      · refine s_iload_n (pc := 25) (k0 := 3) (i := 3) rfl 3 rfl (by decide +kernel) ?_
        exact s_iret (pc := 26) rfl (by decide +kernel)
      · refine s_iinc (pc := 27) (L' := [(2, .int (a2 + (1 : Int32))), (0, .ref a0), (1, .int a1), (3, .int a3)]) (i := 2) (n := 1) 2 rfl rfl (by decide) rfl (by decide +kernel) ?_
        refine s_nmI0 (e := a2 + (1 : Int32)) (L := fun v5 => [(2, .int v5), (0, .ref a0), (1, .int a1), (3, .int a3)]) (fun v5 => ?_)
        refine S_sub [1, 2, 0, 3] rfl ?_
        exact pX4_knotOfLine_b30 hr4 a0 a1 v5 a3 g2
theorem pX4_knotOfLine_l4 {h0 : xH}   : ∀ (k : Nat)  (a0 : Nat) (a1 : Int32) (a2 : Int32) (a3 : Int32) (h : xH), S emI kX4_knotOfLine h0 4 [(0, .ref a0), (1, .int a1), (2, .int a2), (3, .int a3)] [] h (fX4_knotOfLine_l4  k  a0 a1 a2 a3 h) := by
  intro k
  induction k with
  | zero => intros; exact S_none
  | succ k ih => intro  a0 a1 a2 a3 h; exact pX4_knotOfLine_b4 ih  a0 a1 a2 a3 h
theorem pX4_knotOfLine_e    (a0 : Nat) (a1 : Int32) (h : xH) : S emI kX4_knotOfLine h 0 [(0, .ref a0), (1, .int a1)] [] h (fX4_knotOfLine  a0 a1 h) := by
  unfold fX4_knotOfLine
  refine s_iconst (pc := 0) (n := 0) (v := (0 : Int32)) (by decide) (by decide +kernel) ?_
  refine s_nmI (fun v1 => ?_)
  refine s_istore_n (pc := 1) (L' := [(2, .int v1), (0, .ref a0), (1, .int a1)]) (k0 := 2) (i := 2) rfl (by decide) rfl (by decide +kernel) ?_
  refine s_iconst (pc := 2) (n := 0) (v := (0 : Int32)) (by decide) (by decide +kernel) ?_
  refine s_nmI (fun v2 => ?_)
  refine s_istore_n (pc := 3) (L' := [(3, .int v2), (2, .int v1), (0, .ref a0), (1, .int a1)]) (k0 := 3) (i := 3) rfl (by decide) rfl (by decide +kernel) ?_
  refine S_sub [2, 3, 1, 0] rfl ?_
  exact pX4_knotOfLine_l4 FU a0 a1 v1 v2 h
theorem tX4_knotOfLine (a0 : Nat) (a1 : Int32) (h : xH) : Ct yX4_knotOfLine kX4_knotOfLine emI [.ref a0, .int a1] h (fX4_knotOfLine a0 a1 h) := Ct_of (by decide +kernel) rfl rfl rfl (Nat.le_of_ble_eq_true rfl) rfl (pX4_knotOfLine_e a0 a1 h)
def fX4_twiceArea_b44 (r4 : Nat → Int64 → Int32 → xH → Option (Int64 × xH))  (a0 : Nat) (a1 : Int64) (a3 : Int32) (h : xH) : Option (Int64 × xH) :=
  lt (a3 + (1 : Int32)) (fun v1 =>
  r4 a0 a1 v1 h)
def fX4_twiceArea_b4 (r4 : Nat → Int64 → Int32 → xH → Option (Int64 × xH))  (a0 : Nat) (a1 : Int64) (a3 : Int32) (h : xH) : Option (Int64 × xH) :=
  if kc h a0 = 4 then
  if (hI h a0 0) ≤ a3 then (
  some (a1, h))
  else (
  bd (fX4_hasLine a0 a3 h) (fun w4 g2 =>
  if w4 = 0 then (
  fX4_twiceArea_b44 r4 a0 a1 a3 g2)
  else (
  if kc g2 (hR g2 a0 3) = 9 then
  if ix a3 (kl g2 (hR g2 a0 3)) then
  if ix (a3 + (1 : Int32)) (kl g2 (hR g2 a0 3)) then
  bd (fX4_runOf a0 a3 g2) (fun w11 g9 =>
  lt (a1 + (((hJ g2 (hR g2 a0 3) a3.toNatClampNeg) + (hJ g2 (hR g2 a0 3) (a3 + (1 : Int32)).toNatClampNeg)) * w11)) (fun v12 =>
  fX4_twiceArea_b44 r4 a0 v12 a3 g9))
  else none
  else none
  else none)))
  else none
def fX4_twiceArea_l4  : Nat → Nat → Int64 → Int32 → xH → Option (Int64 × xH)
  | 0 => fun _ _ _ _ => none
  | k + 1 => fX4_twiceArea_b4 (fX4_twiceArea_l4  k)
def fX4_twiceArea   (a0 : Nat) (h : xH) : Option (Int64 × xH) :=
  lt (0 : Int64) (fun v1 =>
  lt (0 : Int32) (fun v2 =>
  fX4_twiceArea_l4 FU a0 v1 v2 h))
theorem pX4_twiceArea_b44 {h0 : xH} {r4 : Nat → Int64 → Int32 → xH → Option (Int64 × xH)} (hr4 : ∀  (a0 : Nat) (a1 : Int64) (a3 : Int32) (g : xH), S emJ kX4_twiceArea h0 4 [(0, .ref a0), (1, .long a1), (3, .int a3)] [] g (r4  a0 a1 a3 g))  (a0 : Nat) (a1 : Int64) (a3 : Int32) (h : xH) : S emJ kX4_twiceArea h0 44 [(0, .ref a0), (1, .long a1), (3, .int a3)] [] h (fX4_twiceArea_b44 r4 a0 a1 a3 h) := by
  unfold fX4_twiceArea_b44
  refine s_iinc (pc := 44) (L' := [(3, .int (a3 + (1 : Int32))), (0, .ref a0), (1, .long a1)]) (i := 3) (n := 1) 2 rfl rfl (by decide) rfl (by decide +kernel) ?_
  refine s_nmI0 (e := a3 + (1 : Int32)) (L := fun v1 => [(3, .int v1), (0, .ref a0), (1, .long a1)]) (fun v1 => ?_)
  refine s_goto (pc := 47) (off := -43) 4 (by decide +kernel) (by decide) ?_
  refine S_sub [1, 2, 0] rfl ?_
  exact hr4 a0 a1 v1 h
theorem pX4_twiceArea_b4 {h0 : xH} {r4 : Nat → Int64 → Int32 → xH → Option (Int64 × xH)} (hr4 : ∀  (a0 : Nat) (a1 : Int64) (a3 : Int32) (g : xH), S emJ kX4_twiceArea h0 4 [(0, .ref a0), (1, .long a1), (3, .int a3)] [] g (r4  a0 a1 a3 g))  (a0 : Nat) (a1 : Int64) (a3 : Int32) (h : xH) : S emJ kX4_twiceArea h0 4 [(0, .ref a0), (1, .long a1), (3, .int a3)] [] h (fX4_twiceArea_b4 r4 a0 a1 a3 h) := by
  unfold fX4_twiceArea_b4
  refine s_iload_n (pc := 4) (k0 := 3) (i := 3) rfl 2 rfl (by decide +kernel) ?_
  refine s_aload_n (pc := 5) (k0 := 0) (i := 0) rfl 0 rfl (by decide +kernel) ?_
  refine S_gd (fun c1 => ?_)
  refine s_getI (pc := 6) (k := 0) c1 ft_X4_9 rfl (by decide +kernel) ?_
  refine s_icmp_ge (pc := 9) (off := 41) 50 (by decide +kernel) (by decide) (fun _ => ?_) (fun _ => ?_)
  · refine s_lload_n (pc := 50) (k0 := 1) (i := 1) rfl 1 rfl (by decide +kernel) ?_
    exact s_lret (pc := 51) rfl (by decide +kernel)
  · refine s_aload_n (pc := 12) (k0 := 0) (i := 0) rfl 0 rfl (by decide +kernel) ?_
    refine s_iload_n (pc := 13) (k0 := 3) (i := 3) rfl 2 rfl (by decide +kernel) ?_
    refine s_cVi (pc := 14) [.int a3] (tX4_hasLine a0 a3 h) c1 cw_X4_67 rfl ⟨⟨Nat.le_of_ble_eq_true rfl, Nat.le_of_ble_eq_true rfl⟩, Nat.le_of_ble_eq_true rfl⟩ rfl (by decide +kernel) (fun w4 g2 e3 => ?_)
    refine s_if_eq (pc := 17) (off := 27) 44 (by decide +kernel) (by decide) (fun _ => ?_) (fun _ => ?_)
    · exact pX4_twiceArea_b44 hr4 a0 a1 a3 g2
    · refine s_lload_n (pc := 20) (k0 := 1) (i := 1) rfl 1 rfl (by decide +kernel) ?_
      refine s_aload_n (pc := 21) (k0 := 0) (i := 0) rfl 0 rfl (by decide +kernel) ?_
      have c5 := kp e3 c1 (by decide)
      refine s_getR (pc := 22) (k := 3) c5 ft_X4_22 rfl (by decide +kernel) ?_
      refine s_iload_n (pc := 25) (k0 := 3) (i := 3) rfl 2 rfl (by decide +kernel) ?_
      refine S_gd (fun c6 => ?_)
      refine S_gd (fun c7 => ?_)
      refine s_lald (pc := 26) c6 c7 (by decide +kernel) ?_
      refine s_aload_n (pc := 27) (k0 := 0) (i := 0) rfl 0 rfl (by decide +kernel) ?_
      refine s_getR (pc := 28) (k := 3) c5 ft_X4_22 rfl (by decide +kernel) ?_
      refine s_iload_n (pc := 31) (k0 := 3) (i := 3) rfl 2 rfl (by decide +kernel) ?_
      refine s_iconst (pc := 32) (n := 1) (v := (1 : Int32)) (by decide) (by decide +kernel) ?_
      refine s_iadd (pc := 33) (by decide +kernel) ?_
      refine S_gd (fun c8 => ?_)
      refine s_lald (pc := 34) c6 c8 (by decide +kernel) ?_
      refine s_ladd (pc := 35) (by decide +kernel) ?_
      refine s_aload_n (pc := 36) (k0 := 0) (i := 0) rfl 0 rfl (by decide +kernel) ?_
      refine s_iload_n (pc := 37) (k0 := 3) (i := 3) rfl 2 rfl (by decide +kernel) ?_
      refine s_cVj (pc := 38) [.int a3] (tX4_runOf a0 a3 g2) c5 cw_X4_71 rfl ⟨⟨Nat.le_of_ble_eq_true rfl, Nat.le_of_ble_eq_true rfl⟩, Nat.le_of_ble_eq_true rfl⟩ rfl (by decide +kernel) (fun w11 g9 e10 => ?_)
      refine s_lmul (pc := 41) (by decide +kernel) ?_
      refine s_ladd (pc := 42) (by decide +kernel) ?_
      refine s_nmJ (fun v12 => ?_)
      refine s_lstore_n (pc := 43) (L' := [(1, .long v12), (0, .ref a0), (3, .int a3)]) (k0 := 1) (i := 1) rfl (by decide) rfl (by decide +kernel) ?_
      refine S_sub [1, 0, 2] rfl ?_
      exact pX4_twiceArea_b44 hr4 a0 v12 a3 g9
theorem pX4_twiceArea_l4 {h0 : xH}   : ∀ (k : Nat)  (a0 : Nat) (a1 : Int64) (a3 : Int32) (h : xH), S emJ kX4_twiceArea h0 4 [(0, .ref a0), (1, .long a1), (3, .int a3)] [] h (fX4_twiceArea_l4  k  a0 a1 a3 h) := by
  intro k
  induction k with
  | zero => intros; exact S_none
  | succ k ih => intro  a0 a1 a3 h; exact pX4_twiceArea_b4 ih  a0 a1 a3 h
theorem pX4_twiceArea_e    (a0 : Nat) (h : xH) : S emJ kX4_twiceArea h 0 [(0, .ref a0)] [] h (fX4_twiceArea  a0 h) := by
  unfold fX4_twiceArea
  refine s_lconst (pc := 0) (n := 0) (v := (0 : Int64)) (by decide) (by decide +kernel) ?_
  refine s_nmJ (fun v1 => ?_)
  refine s_lstore_n (pc := 1) (L' := [(1, .long v1), (0, .ref a0)]) (k0 := 1) (i := 1) rfl (by decide) rfl (by decide +kernel) ?_
  refine s_iconst (pc := 2) (n := 0) (v := (0 : Int32)) (by decide) (by decide +kernel) ?_
  refine s_nmI (fun v2 => ?_)
  refine s_istore_n (pc := 3) (L' := [(3, .int v2), (1, .long v1), (0, .ref a0)]) (k0 := 3) (i := 3) rfl (by decide) rfl (by decide +kernel) ?_
  refine S_sub [2, 1, 0] rfl ?_
  exact pX4_twiceArea_l4 FU a0 v1 v2 h
theorem tX4_twiceArea (a0 : Nat) (h : xH) : Ct yX4_twiceArea kX4_twiceArea emJ [.ref a0] h (fX4_twiceArea a0 h) := Ct_of (by decide +kernel) rfl rfl rfl (Nat.le_of_ble_eq_true rfl) rfl (pX4_twiceArea_e a0 h)
def fX4_isStrictlyBetween   (a0 : Int64) (a2 : Int64) (a4 : Int64) (h : xH) : Option (Int32 × xH) :=
  bd (fJ9_min_f86c9 a2 a4 h) (fun w3 g1 =>
  if (lg_cmp a0 w3) ≤ 0 then (
  some ((0 : Int32), g1))
  else (
  bd (fJ9_max_f86c9 a2 a4 g1) (fun w6 g4 =>
  if 0 ≤ (lg_cmp a0 w6) then (
  some ((0 : Int32), g4))
  else (
  some ((1 : Int32), g4)))))
theorem pX4_isStrictlyBetween_e    (a0 : Int64) (a2 : Int64) (a4 : Int64) (h : xH) : S emI kX4_isStrictlyBetween h 0 [(0, .long a0), (2, .long a2), (4, .long a4)] [] h (fX4_isStrictlyBetween  a0 a2 a4 h) := by
  unfold fX4_isStrictlyBetween
  refine s_lload_n (pc := 0) (k0 := 0) (i := 0) rfl 0 rfl (by decide +kernel) ?_
  refine s_lload_n (pc := 1) (k0 := 2) (i := 2) rfl 1 rfl (by decide +kernel) ?_
  refine s_lload (pc := 2) (i := 4) 2 rfl (by decide +kernel) ?_
  refine s_cSj (pc := 4) [.long a2, .long a4] (tJ9_min_f86c9 a2 a4 h) cw_X4_114 rfl ⟨⟨Nat.le_of_ble_eq_true rfl, Nat.le_of_ble_eq_true rfl⟩, Nat.le_of_ble_eq_true rfl⟩ rfl (by decide +kernel) (fun w3 g1 e2 => ?_)
  refine s_lcmp (pc := 7) (by decide +kernel) ?_
  refine s_if_le (pc := 8) (off := 18) 26 (by decide +kernel) (by decide) (fun _ => ?_) (fun _ => ?_)
  · refine s_iconst (pc := 26) (n := 0) (v := (0 : Int32)) (by decide) (by decide +kernel) ?_
    exact s_zret (pc := 27) (by decide) rfl (by decide +kernel)
  · refine s_lload_n (pc := 11) (k0 := 0) (i := 0) rfl 0 rfl (by decide +kernel) ?_
    refine s_lload_n (pc := 12) (k0 := 2) (i := 2) rfl 1 rfl (by decide +kernel) ?_
    refine s_lload (pc := 13) (i := 4) 2 rfl (by decide +kernel) ?_
    refine s_cSj (pc := 15) [.long a2, .long a4] (tJ9_max_f86c9 a2 a4 g1) cw_X4_89 rfl ⟨⟨Nat.le_of_ble_eq_true rfl, Nat.le_of_ble_eq_true rfl⟩, Nat.le_of_ble_eq_true rfl⟩ rfl (by decide +kernel) (fun w6 g4 e5 => ?_)
    refine s_lcmp (pc := 18) (by decide +kernel) ?_
    refine s_if_ge (pc := 19) (off := 7) 26 (by decide +kernel) (by decide) (fun _ => ?_) (fun _ => ?_)
    · refine s_iconst (pc := 26) (n := 0) (v := (0 : Int32)) (by decide) (by decide +kernel) ?_
      exact s_zret (pc := 27) (by decide) rfl (by decide +kernel)
    · refine s_iconst (pc := 22) (n := 1) (v := (1 : Int32)) (by decide) (by decide +kernel) ?_
      refine s_goto (pc := 23) (off := 4) 27 (by decide +kernel) (by decide) ?_
      exact s_zret (pc := 27) (by decide) rfl (by decide +kernel)
theorem tX4_isStrictlyBetween (a0 : Int64) (a2 : Int64) (a4 : Int64) (h : xH) : Ct yX4_isStrictlyBetween kX4_isStrictlyBetween emI [.long a0, .long a2, .long a4] h (fX4_isStrictlyBetween a0 a2 a4 h) := Ct_of (by decide +kernel) rfl rfl rfl (Nat.le_of_ble_eq_true rfl) rfl (pX4_isStrictlyBetween_e a0 a2 a4 h)
def fX4_firstWith_b127 (r2 : Nat → Int32 → Nat → Int32 → xH → Option (Unit × xH))  (a0 : Nat) (a1 : Int32) (a2 : Nat) (a3 : Int32) (h : xH) : Option (Unit × xH) :=
  lt (a3 + (1 : Int32)) (fun v1 =>
  r2 a0 a1 a2 v1 h)
def fX4_firstWith_b58 (r2 : Nat → Int32 → Nat → Int32 → xH → Option (Unit × xH))  (a0 : Nat) (a1 : Int32) (a2 : Nat) (a3 : Int32) (h : xH) : Option (Unit × xH) :=
  if kc h a0 = 4 then
  bd (fX4_hasLine a0 a3 h) (fun w4 g2 =>
  if w4 = 0 then (
  fX4_firstWith_b127 r2 a0 a1 a2 a3 g2)
  else (
  if kc g2 (hR g2 a0 3) = 9 then
  if ix a3 (kl g2 (hR g2 a0 3)) then
  if ix (a3 + (1 : Int32)) (kl g2 (hR g2 a0 3)) then
  bd (fX4_isStrictlyBetween a1.toInt64 (hJ g2 (hR g2 a0 3) a3.toNatClampNeg) (hJ g2 (hR g2 a0 3) (a3 + (1 : Int32)).toNatClampNeg) g2) (fun w11 g9 =>
  if w11 = 0 then (
  fX4_firstWith_b127 r2 a0 a1 a2 a3 g9)
  else (
  bd (fX4_riseOf a0 a3 g9) (fun w15 g13 =>
  if kc g13 (hR g13 a0 1) = 9 then
  if ix a3 (kl g13 (hR g13 a0 1)) then
  if kc g13 (hR g13 a0 3) = 9 then
  if ix a3 (kl g13 (hR g13 a0 3)) then
  bd (fX4_runOf a0 a3 g13) (fun w23 g21 =>
  if kc g21 a2 = 2 then
  bd (fX2_assign a2 (((hJ g13 (hR g13 a0 1) a3.toNatClampNeg) * w15) + ((a1.toInt64 - (hJ g13 (hR g13 a0 3) a3.toNatClampNeg)) * w23)) w15 g21) (fun _ g25 =>
  some ((), g25))
  else none)
  else none
  else none
  else none
  else none)))
  else none
  else none
  else none))
  else none
def fX4_firstWith_b2 (r2 : Nat → Int32 → Nat → Int32 → xH → Option (Unit × xH))  (a0 : Nat) (a1 : Int32) (a2 : Nat) (a3 : Int32) (h : xH) : Option (Unit × xH) :=
  if kc h a0 = 4 then
  if (hI h a0 0) ≤ a3 then (
  if kc h a2 = 2 then
  bd (fX2_forget a2 h) (fun _ g3 =>
  some ((), g3))
  else none)
  else (
  bd (fX4_xAt a0 a3 h) (fun w7 g5 =>
  bd (fX4_valueAt a0 w7 a2 g5) (fun _ g9 =>
  if kc g9 a2 = 2 then
  if (hI g9 a2 0) = 0 then (
  fX4_firstWith_b58 r2 a0 a1 a2 a3 g9)
  else (
  if (lg_cmp (hJ g9 a2 2) (1 : Int64)) = 0 then (
  if (lg_cmp (hJ g9 a2 1) a1.toInt64) = 0 then (
  if kc g9 (hR g9 a0 1) = 9 then
  if ix a3 (kl g9 (hR g9 a0 1)) then
  bd (fX2_assign a2 (hJ g9 (hR g9 a0 1) a3.toNatClampNeg) (1 : Int64) g9) (fun _ g15 =>
  some ((), g15))
  else none
  else none)
  else (
  fX4_firstWith_b58 r2 a0 a1 a2 a3 g9))
  else (
  fX4_firstWith_b58 r2 a0 a1 a2 a3 g9))
  else none)))
  else none
def fX4_firstWith_l2  : Nat → Nat → Int32 → Nat → Int32 → xH → Option (Unit × xH)
  | 0 => fun _ _ _ _ _ => none
  | k + 1 => fX4_firstWith_b2 (fX4_firstWith_l2  k)
def fX4_firstWith   (a0 : Nat) (a1 : Int32) (a2 : Nat) (h : xH) : Option (Unit × xH) :=
  lt (0 : Int32) (fun v1 =>
  fX4_firstWith_l2 FU a0 a1 a2 v1 h)
theorem pX4_firstWith_b127 {h0 : xH} {r2 : Nat → Int32 → Nat → Int32 → xH → Option (Unit × xH)} (hr2 : ∀  (a0 : Nat) (a1 : Int32) (a2 : Nat) (a3 : Int32) (g : xH), S emV kX4_firstWith h0 2 [(0, .ref a0), (1, .int a1), (2, .ref a2), (3, .int a3)] [] g (r2  a0 a1 a2 a3 g))  (a0 : Nat) (a1 : Int32) (a2 : Nat) (a3 : Int32) (h : xH) : S emV kX4_firstWith h0 127 [(0, .ref a0), (1, .int a1), (2, .ref a2), (3, .int a3)] [] h (fX4_firstWith_b127 r2 a0 a1 a2 a3 h) := by
  unfold fX4_firstWith_b127
  refine s_iinc (pc := 127) (L' := [(3, .int (a3 + (1 : Int32))), (0, .ref a0), (1, .int a1), (2, .ref a2)]) (i := 3) (n := 1) 3 rfl rfl (by decide) rfl (by decide +kernel) ?_
  refine s_nmI0 (e := a3 + (1 : Int32)) (L := fun v1 => [(3, .int v1), (0, .ref a0), (1, .int a1), (2, .ref a2)]) (fun v1 => ?_)
  refine s_goto (pc := 130) (off := -128) 2 (by decide +kernel) (by decide) ?_
  refine S_sub [1, 2, 3, 0] rfl ?_
  exact hr2 a0 a1 a2 v1 h
theorem pX4_firstWith_b58 {h0 : xH} {r2 : Nat → Int32 → Nat → Int32 → xH → Option (Unit × xH)} (hr2 : ∀  (a0 : Nat) (a1 : Int32) (a2 : Nat) (a3 : Int32) (g : xH), S emV kX4_firstWith h0 2 [(0, .ref a0), (1, .int a1), (2, .ref a2), (3, .int a3)] [] g (r2  a0 a1 a2 a3 g))  (a0 : Nat) (a1 : Int32) (a2 : Nat) (a3 : Int32) (h : xH) : S emV kX4_firstWith h0 58 [(0, .ref a0), (1, .int a1), (2, .ref a2), (3, .int a3)] [] h (fX4_firstWith_b58 r2 a0 a1 a2 a3 h) := by
  unfold fX4_firstWith_b58
  refine s_aload_n (pc := 58) (k0 := 0) (i := 0) rfl 0 rfl (by decide +kernel) ?_
  refine s_iload_n (pc := 59) (k0 := 3) (i := 3) rfl 3 rfl (by decide +kernel) ?_
  refine S_gd (fun c1 => ?_)
  refine s_cVi (pc := 60) [.int a3] (tX4_hasLine a0 a3 h) c1 cw_X4_67 rfl ⟨⟨Nat.le_of_ble_eq_true rfl, Nat.le_of_ble_eq_true rfl⟩, Nat.le_of_ble_eq_true rfl⟩ rfl (by decide +kernel) (fun w4 g2 e3 => ?_)
  refine s_if_eq (pc := 63) (off := 64) 127 (by decide +kernel) (by decide) (fun _ => ?_) (fun _ => ?_)
  · exact pX4_firstWith_b127 hr2 a0 a1 a2 a3 g2
  · refine s_iload_n (pc := 66) (k0 := 1) (i := 1) rfl 1 rfl (by decide +kernel) ?_
    refine s_i2l (pc := 67) (by decide +kernel) ?_
    refine s_aload_n (pc := 68) (k0 := 0) (i := 0) rfl 0 rfl (by decide +kernel) ?_
    have c5 := kp e3 c1 (by decide)
    refine s_getR (pc := 69) (k := 3) c5 ft_X4_22 rfl (by decide +kernel) ?_
    refine s_iload_n (pc := 72) (k0 := 3) (i := 3) rfl 3 rfl (by decide +kernel) ?_
    refine S_gd (fun c6 => ?_)
    refine S_gd (fun c7 => ?_)
    refine s_lald (pc := 73) c6 c7 (by decide +kernel) ?_
    refine s_aload_n (pc := 74) (k0 := 0) (i := 0) rfl 0 rfl (by decide +kernel) ?_
    refine s_getR (pc := 75) (k := 3) c5 ft_X4_22 rfl (by decide +kernel) ?_
    refine s_iload_n (pc := 78) (k0 := 3) (i := 3) rfl 3 rfl (by decide +kernel) ?_
    refine s_iconst (pc := 79) (n := 1) (v := (1 : Int32)) (by decide) (by decide +kernel) ?_
    refine s_iadd (pc := 80) (by decide +kernel) ?_
    refine S_gd (fun c8 => ?_)
    refine s_lald (pc := 81) c6 c8 (by decide +kernel) ?_
    refine s_cSi (pc := 82) [.long a1.toInt64, .long (hJ g2 (hR g2 a0 3) a3.toNatClampNeg), .long (hJ g2 (hR g2 a0 3) (a3 + (1 : Int32)).toNatClampNeg)] (tX4_isStrictlyBetween a1.toInt64 (hJ g2 (hR g2 a0 3) a3.toNatClampNeg) (hJ g2 (hR g2 a0 3) (a3 + (1 : Int32)).toNatClampNeg) g2) cw_X4_110 rfl ⟨⟨Nat.le_of_ble_eq_true rfl, Nat.le_of_ble_eq_true rfl⟩, Nat.le_of_ble_eq_true rfl⟩ rfl (by decide +kernel) (fun w11 g9 e10 => ?_)
    refine s_if_eq (pc := 85) (off := 42) 127 (by decide +kernel) (by decide) (fun _ => ?_) (fun _ => ?_)
    · exact pX4_firstWith_b127 hr2 a0 a1 a2 a3 g9
    · refine s_aload_n (pc := 88) (k0 := 0) (i := 0) rfl 0 rfl (by decide +kernel) ?_
      refine s_iload_n (pc := 89) (k0 := 3) (i := 3) rfl 3 rfl (by decide +kernel) ?_
      have c12 := kp e10 c5 (by decide)
      refine s_cVj (pc := 90) [.int a3] (tX4_riseOf a0 a3 g9) c12 cw_X4_75 rfl ⟨⟨Nat.le_of_ble_eq_true rfl, Nat.le_of_ble_eq_true rfl⟩, Nat.le_of_ble_eq_true rfl⟩ rfl (by decide +kernel) (fun w15 g13 e14 => ?_)
      refine s_lstore (pc := 93) (L' := [(4, .long w15), (0, .ref a0), (1, .int a1), (2, .ref a2), (3, .int a3)]) (i := 4) (by decide) rfl (by decide +kernel) ?_
      refine s_aload_n (pc := 95) (k0 := 2) (i := 2) rfl 3 rfl (by decide +kernel) ?_
      refine s_aload_n (pc := 96) (k0 := 0) (i := 0) rfl 1 rfl (by decide +kernel) ?_
      have c16 := kp e14 c12 (by decide)
      refine s_getR (pc := 97) (k := 1) c16 ft_X4_15 rfl (by decide +kernel) ?_
      refine s_iload_n (pc := 100) (k0 := 3) (i := 3) rfl 4 rfl (by decide +kernel) ?_
      refine S_gd (fun c17 => ?_)
      refine S_gd (fun c18 => ?_)
      refine s_lald (pc := 101) c17 c18 (by decide +kernel) ?_
      refine s_lload (pc := 102) (i := 4) 0 rfl (by decide +kernel) ?_
      refine s_lmul (pc := 104) (by decide +kernel) ?_
      refine s_iload_n (pc := 105) (k0 := 1) (i := 1) rfl 2 rfl (by decide +kernel) ?_
      refine s_i2l (pc := 106) (by decide +kernel) ?_
      refine s_aload_n (pc := 107) (k0 := 0) (i := 0) rfl 1 rfl (by decide +kernel) ?_
      refine s_getR (pc := 108) (k := 3) c16 ft_X4_22 rfl (by decide +kernel) ?_
      refine s_iload_n (pc := 111) (k0 := 3) (i := 3) rfl 4 rfl (by decide +kernel) ?_
      refine S_gd (fun c19 => ?_)
      refine S_gd (fun c20 => ?_)
      refine s_lald (pc := 112) c19 c20 (by decide +kernel) ?_
      refine s_lsub (pc := 113) (by decide +kernel) ?_
      refine s_aload_n (pc := 114) (k0 := 0) (i := 0) rfl 1 rfl (by decide +kernel) ?_
      refine s_iload_n (pc := 115) (k0 := 3) (i := 3) rfl 4 rfl (by decide +kernel) ?_
      refine s_cVj (pc := 116) [.int a3] (tX4_runOf a0 a3 g13) c16 cw_X4_71 rfl ⟨⟨Nat.le_of_ble_eq_true rfl, Nat.le_of_ble_eq_true rfl⟩, Nat.le_of_ble_eq_true rfl⟩ rfl (by decide +kernel) (fun w23 g21 e22 => ?_)
      refine s_lmul (pc := 119) (by decide +kernel) ?_
      refine s_ladd (pc := 120) (by decide +kernel) ?_
      refine s_lload (pc := 121) (i := 4) 0 rfl (by decide +kernel) ?_
      refine S_gd (fun c24 => ?_)
      refine s_cVv (pc := 123) [.long (((hJ g13 (hR g13 a0 1) a3.toNatClampNeg) * w15) + ((a1.toInt64 - (hJ g13 (hR g13 a0 3) a3.toNatClampNeg)) * w23)), .long w15] (tX2_assign a2 (((hJ g13 (hR g13 a0 1) a3.toNatClampNeg) * w15) + ((a1.toInt64 - (hJ g13 (hR g13 a0 3) a3.toNatClampNeg)) * w23)) w15 g21) c24 cw_X4_78 rfl ⟨⟨Nat.le_of_ble_eq_true rfl, Nat.le_of_ble_eq_true rfl⟩, Nat.le_of_ble_eq_true rfl⟩ rfl (by decide +kernel) (fun _ g25 e26 => ?_)
      exact s_vret (pc := 126) rfl (by decide +kernel)
theorem pX4_firstWith_b2 {h0 : xH} {r2 : Nat → Int32 → Nat → Int32 → xH → Option (Unit × xH)} (hr2 : ∀  (a0 : Nat) (a1 : Int32) (a2 : Nat) (a3 : Int32) (g : xH), S emV kX4_firstWith h0 2 [(0, .ref a0), (1, .int a1), (2, .ref a2), (3, .int a3)] [] g (r2  a0 a1 a2 a3 g))  (a0 : Nat) (a1 : Int32) (a2 : Nat) (a3 : Int32) (h : xH) : S emV kX4_firstWith h0 2 [(0, .ref a0), (1, .int a1), (2, .ref a2), (3, .int a3)] [] h (fX4_firstWith_b2 r2 a0 a1 a2 a3 h) := by
  unfold fX4_firstWith_b2
  refine s_iload_n (pc := 2) (k0 := 3) (i := 3) rfl 3 rfl (by decide +kernel) ?_
  refine s_aload_n (pc := 3) (k0 := 0) (i := 0) rfl 0 rfl (by decide +kernel) ?_
  refine S_gd (fun c1 => ?_)
  refine s_getI (pc := 4) (k := 0) c1 ft_X4_9 rfl (by decide +kernel) ?_
  refine s_icmp_ge (pc := 7) (off := 126) 133 (by decide +kernel) (by decide) (fun _ => ?_) (fun _ => ?_)
  · refine s_aload_n (pc := 133) (k0 := 2) (i := 2) rfl 2 rfl (by decide +kernel) ?_
    refine S_gd (fun c2 => ?_)
    refine s_cVv (pc := 134) [] (tX2_forget a2 h) c2 cw_X4_82 rfl ⟨⟨Nat.le_of_ble_eq_true rfl, Nat.le_of_ble_eq_true rfl⟩, Nat.le_of_ble_eq_true rfl⟩ rfl (by decide +kernel) (fun _ g3 e4 => ?_)
    exact s_vret (pc := 137) rfl (by decide +kernel)
  · refine s_aload_n (pc := 10) (k0 := 0) (i := 0) rfl 0 rfl (by decide +kernel) ?_
    refine s_aload_n (pc := 11) (k0 := 0) (i := 0) rfl 0 rfl (by decide +kernel) ?_
    refine s_iload_n (pc := 12) (k0 := 3) (i := 3) rfl 3 rfl (by decide +kernel) ?_
    refine s_cVi (pc := 13) [.int a3] (tX4_xAt a0 a3 h) c1 cw_X4_91 rfl ⟨⟨Nat.le_of_ble_eq_true rfl, Nat.le_of_ble_eq_true rfl⟩, Nat.le_of_ble_eq_true rfl⟩ rfl (by decide +kernel) (fun w7 g5 e6 => ?_)
    refine s_aload_n (pc := 16) (k0 := 2) (i := 2) rfl 2 rfl (by decide +kernel) ?_
    have c8 := kp e6 c1 (by decide)
    refine s_cVv (pc := 17) [.int w7, .ref a2] (tX4_valueAt a0 w7 a2 g5) c8 cw_X4_95 rfl ⟨⟨Nat.le_of_ble_eq_true rfl, Nat.le_of_ble_eq_true rfl⟩, Nat.le_of_ble_eq_true rfl⟩ rfl (by decide +kernel) (fun _ g9 e10 => ?_)
    refine s_aload_n (pc := 20) (k0 := 2) (i := 2) rfl 2 rfl (by decide +kernel) ?_
    refine S_gd (fun c11 => ?_)
    refine s_getI (pc := 21) (k := 0) c11 ft_X4_99 rfl (by decide +kernel) ?_
    refine s_if_eq (pc := 24) (off := 34) 58 (by decide +kernel) (by decide) (fun _ => ?_) (fun _ => ?_)
    · exact pX4_firstWith_b58 hr2 a0 a1 a2 a3 g9
    · refine s_aload_n (pc := 27) (k0 := 2) (i := 2) rfl 2 rfl (by decide +kernel) ?_
      refine s_getJ (pc := 28) (k := 2) c11 ft_X4_103 rfl (by decide +kernel) ?_
      refine s_lconst (pc := 31) (n := 1) (v := (1 : Int64)) (by decide) (by decide +kernel) ?_
      refine s_lcmp (pc := 32) (by decide +kernel) ?_
      refine s_if_ne (pc := 33) (off := 25) 58 (by decide +kernel) (by decide) (fun _ => ?_) (fun _ => ?_)
      · refine s_aload_n (pc := 36) (k0 := 2) (i := 2) rfl 2 rfl (by decide +kernel) ?_
        refine s_getJ (pc := 37) (k := 1) c11 ft_X4_107 rfl (by decide +kernel) ?_
        refine s_iload_n (pc := 40) (k0 := 1) (i := 1) rfl 1 rfl (by decide +kernel) ?_
        refine s_i2l (pc := 41) (by decide +kernel) ?_
        refine s_lcmp (pc := 42) (by decide +kernel) ?_
        refine s_if_ne (pc := 43) (off := 15) 58 (by decide +kernel) (by decide) (fun _ => ?_) (fun _ => ?_)
        · refine s_aload_n (pc := 46) (k0 := 2) (i := 2) rfl 2 rfl (by decide +kernel) ?_
          refine s_aload_n (pc := 47) (k0 := 0) (i := 0) rfl 0 rfl (by decide +kernel) ?_
          have c12 := kp e10 c8 (by decide)
          refine s_getR (pc := 48) (k := 1) c12 ft_X4_15 rfl (by decide +kernel) ?_
          refine s_iload_n (pc := 51) (k0 := 3) (i := 3) rfl 3 rfl (by decide +kernel) ?_
          refine S_gd (fun c13 => ?_)
          refine S_gd (fun c14 => ?_)
          refine s_lald (pc := 52) c13 c14 (by decide +kernel) ?_
          refine s_lconst (pc := 53) (n := 1) (v := (1 : Int64)) (by decide) (by decide +kernel) ?_
          refine s_cVv (pc := 54) [.long (hJ g9 (hR g9 a0 1) a3.toNatClampNeg), .long (1 : Int64)] (tX2_assign a2 (hJ g9 (hR g9 a0 1) a3.toNatClampNeg) (1 : Int64) g9) c11 cw_X4_78 rfl ⟨⟨Nat.le_of_ble_eq_true rfl, Nat.le_of_ble_eq_true rfl⟩, Nat.le_of_ble_eq_true rfl⟩ rfl (by decide +kernel) (fun _ g15 e16 => ?_)
          exact s_vret (pc := 57) rfl (by decide +kernel)
        · exact pX4_firstWith_b58 hr2 a0 a1 a2 a3 g9
      · exact pX4_firstWith_b58 hr2 a0 a1 a2 a3 g9
theorem pX4_firstWith_l2 {h0 : xH}   : ∀ (k : Nat)  (a0 : Nat) (a1 : Int32) (a2 : Nat) (a3 : Int32) (h : xH), S emV kX4_firstWith h0 2 [(0, .ref a0), (1, .int a1), (2, .ref a2), (3, .int a3)] [] h (fX4_firstWith_l2  k  a0 a1 a2 a3 h) := by
  intro k
  induction k with
  | zero => intros; exact S_none
  | succ k ih => intro  a0 a1 a2 a3 h; exact pX4_firstWith_b2 ih  a0 a1 a2 a3 h
theorem pX4_firstWith_e    (a0 : Nat) (a1 : Int32) (a2 : Nat) (h : xH) : S emV kX4_firstWith h 0 [(0, .ref a0), (1, .int a1), (2, .ref a2)] [] h (fX4_firstWith  a0 a1 a2 h) := by
  unfold fX4_firstWith
  refine s_iconst (pc := 0) (n := 0) (v := (0 : Int32)) (by decide) (by decide +kernel) ?_
  refine s_nmI (fun v1 => ?_)
  refine s_istore_n (pc := 1) (L' := [(3, .int v1), (0, .ref a0), (1, .int a1), (2, .ref a2)]) (k0 := 3) (i := 3) rfl (by decide) rfl (by decide +kernel) ?_
  refine S_sub [1, 2, 3, 0] rfl ?_
  exact pX4_firstWith_l2 FU a0 a1 a2 v1 h
theorem tX4_firstWith (a0 : Nat) (a1 : Int32) (a2 : Nat) (h : xH) : Ct yX4_firstWith kX4_firstWith emV [.ref a0, .int a1, .ref a2] h (fX4_firstWith a0 a1 a2 h) := Ct_of (by decide +kernel) rfl rfl rfl (Nat.le_of_ble_eq_true rfl) rfl (pX4_firstWith_e a0 a1 a2 h)
def fX4_placesWithin_b75 (r9 : Nat → Int32 → Int32 → Int64 → Int32 → xH → Option (Int32 × xH))  (a0 : Nat) (a2 : Int32) (a3 : Int32) (a4 : Int64) (a6 : Int32) (h : xH) : Option (Int32 × xH) :=
  lt (a6 + (1 : Int32)) (fun v1 =>
  r9 a0 a2 a3 a4 v1 h)
def fX4_placesWithin_b9 (r9 : Nat → Int32 → Int32 → Int64 → Int32 → xH → Option (Int32 × xH))  (a0 : Nat) (a2 : Int32) (a3 : Int32) (a4 : Int64) (a6 : Int32) (h : xH) : Option (Int32 × xH) :=
  if kc h a0 = 4 then
  if (hI h a0 0) ≤ a6 then (
  some (a3, h))
  else (
  if kc h (hR h a0 1) = 9 then
  if ix a6 (kl h (hR h a0 1)) then
  bd (fJ9_max_f86c9 a4 (hJ h (hR h a0 1) a6.toNatClampNeg) h) (fun w6 g4 =>
  bd (fX4_endOfPiece a0 a6 g4) (fun w10 g8 =>
  if kc g8 (hR g4 a0 1) = 9 then
  if ix w10 (kl g8 (hR g4 a0 1)) then
  bd (fJ9_min_f86c9 a2.toInt64 (hJ g8 (hR g4 a0 1) w10.toNatClampNeg) g8) (fun w15 g13 =>
  if 0 < (lg_cmp w6 w15) then (
  fX4_placesWithin_b75 r9 a0 a2 a3 a4 a6 g13)
  else (
  lt (a3 + (((w15 - w6) + (1 : Int64)).toInt32)) (fun v16 =>
  lt (w15 + (1 : Int64)) (fun v17 =>
  fX4_placesWithin_b75 r9 a0 a2 v16 v17 a6 g13))))
  else none
  else none))
  else none
  else none)
  else none
def fX4_placesWithin_l9  : Nat → Nat → Int32 → Int32 → Int64 → Int32 → xH → Option (Int32 × xH)
  | 0 => fun _ _ _ _ _ _ => none
  | k + 1 => fX4_placesWithin_b9 (fX4_placesWithin_l9  k)
def fX4_placesWithin   (a0 : Nat) (a1 : Int32) (a2 : Int32) (h : xH) : Option (Int32 × xH) :=
  lt (0 : Int32) (fun v1 =>
  lt a1.toInt64 (fun v2 =>
  lt (0 : Int32) (fun v3 =>
  fX4_placesWithin_l9 FU a0 a2 v1 v2 v3 h)))
theorem pX4_placesWithin_b75 {h0 : xH} {r9 : Nat → Int32 → Int32 → Int64 → Int32 → xH → Option (Int32 × xH)} (hr9 : ∀  (a0 : Nat) (a2 : Int32) (a3 : Int32) (a4 : Int64) (a6 : Int32) (g : xH), S emI kX4_placesWithin h0 9 [(0, .ref a0), (2, .int a2), (3, .int a3), (4, .long a4), (6, .int a6)] [] g (r9  a0 a2 a3 a4 a6 g))  (a0 : Nat) (a2 : Int32) (a3 : Int32) (a4 : Int64) (a6 : Int32) (h : xH) : S emI kX4_placesWithin h0 75 [(0, .ref a0), (2, .int a2), (3, .int a3), (4, .long a4), (6, .int a6)] [] h (fX4_placesWithin_b75 r9 a0 a2 a3 a4 a6 h) := by
  unfold fX4_placesWithin_b75
  refine s_iinc (pc := 75) (L' := [(6, .int (a6 + (1 : Int32))), (0, .ref a0), (2, .int a2), (3, .int a3), (4, .long a4)]) (i := 6) (n := 1) 4 rfl rfl (by decide) rfl (by decide +kernel) ?_
  refine s_nmI0 (e := a6 + (1 : Int32)) (L := fun v1 => [(6, .int v1), (0, .ref a0), (2, .int a2), (3, .int a3), (4, .long a4)]) (fun v1 => ?_)
  refine s_goto (pc := 78) (off := -69) 9 (by decide +kernel) (by decide) ?_
  refine S_sub [1, 2, 3, 4, 0] rfl ?_
  exact hr9 a0 a2 a3 a4 v1 h
theorem pX4_placesWithin_b9 {h0 : xH} {r9 : Nat → Int32 → Int32 → Int64 → Int32 → xH → Option (Int32 × xH)} (hr9 : ∀  (a0 : Nat) (a2 : Int32) (a3 : Int32) (a4 : Int64) (a6 : Int32) (g : xH), S emI kX4_placesWithin h0 9 [(0, .ref a0), (2, .int a2), (3, .int a3), (4, .long a4), (6, .int a6)] [] g (r9  a0 a2 a3 a4 a6 g))  (a0 : Nat) (a2 : Int32) (a3 : Int32) (a4 : Int64) (a6 : Int32) (h : xH) : S emI kX4_placesWithin h0 9 [(0, .ref a0), (2, .int a2), (3, .int a3), (4, .long a4), (6, .int a6)] [] h (fX4_placesWithin_b9 r9 a0 a2 a3 a4 a6 h) := by
  unfold fX4_placesWithin_b9
  refine s_iload (pc := 9) (i := 6) 4 rfl (by decide +kernel) ?_
  refine s_aload_n (pc := 11) (k0 := 0) (i := 0) rfl 0 rfl (by decide +kernel) ?_
  refine S_gd (fun c1 => ?_)
  refine s_getI (pc := 12) (k := 0) c1 ft_X4_9 rfl (by decide +kernel) ?_
  refine s_icmp_ge (pc := 15) (off := 66) 81 (by decide +kernel) (by decide) (fun _ => ?_) (fun _ => ?_)
  · refine s_iload_n (pc := 81) (k0 := 3) (i := 3) rfl 2 rfl (by decide +kernel) ?_
    exact s_iret (pc := 82) rfl (by decide +kernel)
  · refine s_lload (pc := 18) (i := 4) 3 rfl (by decide +kernel) ?_
    refine s_aload_n (pc := 20) (k0 := 0) (i := 0) rfl 0 rfl (by decide +kernel) ?_
    refine s_getR (pc := 21) (k := 1) c1 ft_X4_15 rfl (by decide +kernel) ?_
    refine s_iload (pc := 24) (i := 6) 4 rfl (by decide +kernel) ?_
    refine S_gd (fun c2 => ?_)
    refine S_gd (fun c3 => ?_)
    refine s_lald (pc := 26) c2 c3 (by decide +kernel) ?_
    refine s_cSj (pc := 27) [.long a4, .long (hJ h (hR h a0 1) a6.toNatClampNeg)] (tJ9_max_f86c9 a4 (hJ h (hR h a0 1) a6.toNatClampNeg) h) cw_X4_89 rfl ⟨⟨Nat.le_of_ble_eq_true rfl, Nat.le_of_ble_eq_true rfl⟩, Nat.le_of_ble_eq_true rfl⟩ rfl (by decide +kernel) (fun w6 g4 e5 => ?_)
    refine s_lstore (pc := 30) (L' := [(7, .long w6), (0, .ref a0), (2, .int a2), (3, .int a3), (4, .long a4), (6, .int a6)]) (i := 7) (by decide) rfl (by decide +kernel) ?_
    refine s_iload_n (pc := 32) (k0 := 2) (i := 2) rfl 2 rfl (by decide +kernel) ?_
    refine s_i2l (pc := 33) (by decide +kernel) ?_
    refine s_aload_n (pc := 34) (k0 := 0) (i := 0) rfl 1 rfl (by decide +kernel) ?_
    have c7 := kp e5 c1 (by decide)
    refine s_getR (pc := 35) (k := 1) c7 ft_X4_15 rfl (by decide +kernel) ?_
    refine s_aload_n (pc := 38) (k0 := 0) (i := 0) rfl 1 rfl (by decide +kernel) ?_
    refine s_iload (pc := 39) (i := 6) 5 rfl (by decide +kernel) ?_
    refine s_cVi (pc := 41) [.int a6] (tX4_endOfPiece a0 a6 g4) c7 cw_X4_117 rfl ⟨⟨Nat.le_of_ble_eq_true rfl, Nat.le_of_ble_eq_true rfl⟩, Nat.le_of_ble_eq_true rfl⟩ rfl (by decide +kernel) (fun w10 g8 e9 => ?_)
    refine S_gd (fun c11 => ?_)
    refine S_gd (fun c12 => ?_)
    refine s_lald (pc := 44) c11 c12 (by decide +kernel) ?_
    refine s_cSj (pc := 45) [.long a2.toInt64, .long (hJ g8 (hR g4 a0 1) w10.toNatClampNeg)] (tJ9_min_f86c9 a2.toInt64 (hJ g8 (hR g4 a0 1) w10.toNatClampNeg) g8) cw_X4_114 rfl ⟨⟨Nat.le_of_ble_eq_true rfl, Nat.le_of_ble_eq_true rfl⟩, Nat.le_of_ble_eq_true rfl⟩ rfl (by decide +kernel) (fun w15 g13 e14 => ?_)
    refine s_lstore (pc := 48) (L' := [(9, .long w15), (7, .long w6), (0, .ref a0), (2, .int a2), (3, .int a3), (4, .long a4), (6, .int a6)]) (i := 9) (by decide) rfl (by decide +kernel) ?_
    refine s_lload (pc := 50) (i := 7) 1 rfl (by decide +kernel) ?_
    refine s_lload (pc := 52) (i := 9) 0 rfl (by decide +kernel) ?_
    refine s_lcmp (pc := 54) (by decide +kernel) ?_
    refine s_if_gt (pc := 55) (off := 20) 75 (by decide +kernel) (by decide) (fun _ => ?_) (fun _ => ?_)
    · refine S_sub [2, 3, 4, 5, 6] rfl ?_
      exact pX4_placesWithin_b75 hr9 a0 a2 a3 a4 a6 g13
    · refine s_iload_n (pc := 58) (k0 := 3) (i := 3) rfl 4 rfl (by decide +kernel) ?_
      refine s_lload (pc := 59) (i := 9) 0 rfl (by decide +kernel) ?_
      refine s_lload (pc := 61) (i := 7) 1 rfl (by decide +kernel) ?_
      refine s_lsub (pc := 63) (by decide +kernel) ?_
      refine s_lconst (pc := 64) (n := 1) (v := (1 : Int64)) (by decide) (by decide +kernel) ?_
      refine s_ladd (pc := 65) (by decide +kernel) ?_
      refine s_l2i (pc := 66) (by decide +kernel) ?_
      refine s_iadd (pc := 67) (by decide +kernel) ?_
      refine s_nmI (fun v16 => ?_)
      refine s_istore_n (pc := 68) (L' := [(3, .int v16), (9, .long w15), (7, .long w6), (0, .ref a0), (2, .int a2), (4, .long a4), (6, .int a6)]) (k0 := 3) (i := 3) rfl (by decide) rfl (by decide +kernel) ?_
      refine s_lload (pc := 69) (i := 9) 1 rfl (by decide +kernel) ?_
      refine s_lconst (pc := 71) (n := 1) (v := (1 : Int64)) (by decide) (by decide +kernel) ?_
      refine s_ladd (pc := 72) (by decide +kernel) ?_
      refine s_nmJ (fun v17 => ?_)
      refine s_lstore (pc := 73) (L' := [(4, .long v17), (3, .int v16), (9, .long w15), (7, .long w6), (0, .ref a0), (2, .int a2), (6, .int a6)]) (i := 4) (by decide) rfl (by decide +kernel) ?_
      refine S_sub [4, 5, 1, 0, 6] rfl ?_
      exact pX4_placesWithin_b75 hr9 a0 a2 v16 v17 a6 g13
theorem pX4_placesWithin_l9 {h0 : xH}   : ∀ (k : Nat)  (a0 : Nat) (a2 : Int32) (a3 : Int32) (a4 : Int64) (a6 : Int32) (h : xH), S emI kX4_placesWithin h0 9 [(0, .ref a0), (2, .int a2), (3, .int a3), (4, .long a4), (6, .int a6)] [] h (fX4_placesWithin_l9  k  a0 a2 a3 a4 a6 h) := by
  intro k
  induction k with
  | zero => intros; exact S_none
  | succ k ih => intro  a0 a2 a3 a4 a6 h; exact pX4_placesWithin_b9 ih  a0 a2 a3 a4 a6 h
theorem pX4_placesWithin_e    (a0 : Nat) (a1 : Int32) (a2 : Int32) (h : xH) : S emI kX4_placesWithin h 0 [(0, .ref a0), (1, .int a1), (2, .int a2)] [] h (fX4_placesWithin  a0 a1 a2 h) := by
  unfold fX4_placesWithin
  refine s_iconst (pc := 0) (n := 0) (v := (0 : Int32)) (by decide) (by decide +kernel) ?_
  refine s_nmI (fun v1 => ?_)
  refine s_istore_n (pc := 1) (L' := [(3, .int v1), (0, .ref a0), (1, .int a1), (2, .int a2)]) (k0 := 3) (i := 3) rfl (by decide) rfl (by decide +kernel) ?_
  refine s_iload_n (pc := 2) (k0 := 1) (i := 1) rfl 2 rfl (by decide +kernel) ?_
  refine s_i2l (pc := 3) (by decide +kernel) ?_
  refine s_nmJ (fun v2 => ?_)
  refine s_lstore (pc := 4) (L' := [(4, .long v2), (3, .int v1), (0, .ref a0), (1, .int a1), (2, .int a2)]) (i := 4) (by decide) rfl (by decide +kernel) ?_
  refine s_iconst (pc := 6) (n := 0) (v := (0 : Int32)) (by decide) (by decide +kernel) ?_
  refine s_nmI (fun v3 => ?_)
  refine s_istore (pc := 7) (L' := [(6, .int v3), (4, .long v2), (3, .int v1), (0, .ref a0), (1, .int a1), (2, .int a2)]) (i := 6) (by decide) rfl (by decide +kernel) ?_
  refine S_sub [3, 5, 2, 1, 0] rfl ?_
  exact pX4_placesWithin_l9 FU a0 a2 v1 v2 v3 h
theorem tX4_placesWithin (a0 : Nat) (a1 : Int32) (a2 : Int32) (h : xH) : Ct yX4_placesWithin kX4_placesWithin emI [.ref a0, .int a1, .int a2] h (fX4_placesWithin a0 a1 a2 h) := Ct_of (by decide +kernel) rfl rfl rfl (Nat.le_of_ble_eq_true rfl) rfl (pX4_placesWithin_e a0 a1 a2 h)
