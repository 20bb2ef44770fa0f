def fX2_init   (a0 : Nat) (h : xH) : Option (Unit × xH) :=
  if kc h a0 = 2 then
  lt (sI h a0 0 (0 : Int32)) (fun g2 =>
  lt (sJ g2 a0 1 (0 : Int64)) (fun g5 =>
  lt (sJ g5 a0 2 (1 : Int64)) (fun g8 =>
  some ((), g8))))
  else none
theorem pX2_init_e    (a0 : Nat) (h : xH) : S emV kX2_init h 0 [(0, .ref a0)] [] h (fX2_init  a0 h) := by
  unfold fX2_init
  refine s_aload_n (pc := 0) (k0 := 0) (i := 0) rfl 0 rfl (by decide +kernel) ?_
  refine S_gd (fun c1 => ?_)
  refine s_objInit (pc := 1) (index := 1) (k2r c1 (by decide)) ml_X2_1 oi_1 oi_2 (by decide) (by decide +kernel) ?_
  refine s_aload_n (pc := 4) (k0 := 0) (i := 0) rfl 0 rfl (by decide +kernel) ?_
  refine s_iconst (pc := 5) (n := 0) (v := (0 : Int32)) (by decide) (by decide +kernel) ?_
  refine s_putZ (pc := 6) (k := 0) (by decide) c1 ft_X2_7 (fw_2_0 _ _) rfl rfl (by decide +kernel) ?_
  refine s_nmH (o := h) rfl (fun g2 e3 => ?_)
  refine s_aload_n (pc := 9) (k0 := 0) (i := 0) rfl 0 rfl (by decide +kernel) ?_
  refine s_lconst (pc := 10) (n := 0) (v := (0 : Int64)) (by decide) (by decide +kernel) ?_
  have c4 := kp e3 c1 (by decide)
  refine s_putJ (pc := 11) (k := 1) c4 ft_X2_13 (fw_2_1 _ _) rfl rfl (by decide +kernel) ?_
  refine s_nmH (o := g2) rfl (fun g5 e6 => ?_)
  refine s_aload_n (pc := 14) (k0 := 0) (i := 0) rfl 0 rfl (by decide +kernel) ?_
  refine s_lconst (pc := 15) (n := 1) (v := (1 : Int64)) (by decide) (by decide +kernel) ?_
  have c7 := kp e6 c4 (by decide)
  refine s_putJ (pc := 16) (k := 2) c7 ft_X2_17 (fw_2_2 _ _) rfl rfl (by decide +kernel) ?_
  refine s_nmH (o := g5) rfl (fun g8 e9 => ?_)
  exact s_vret (pc := 19) rfl (by decide +kernel)
theorem tX2_init (a0 : Nat) (h : xH) : Ct yX2_init kX2_init emV [.ref a0] h (fX2_init a0 h) := Ct_of (by decide +kernel) rfl rfl rfl (Nat.le_of_ble_eq_true rfl) rfl (pX2_init_e a0 h)
def fX2_order   (a0 : Int64) (a2 : Int64) (a4 : Int64) (a6 : Int64) (h : xH) : Option (Int32 × xH) :=
  if (lg_cmp a2 (0 : Int64)) ≤ 0 then (
  some ((0 : Int32), h))
  else (
  if 0 < (lg_cmp a6 (0 : Int64)) then (
  bd (fJ9_floorDiv_f86c9 a0 a2 h) (fun w3 g1 =>
  bd (fJ9_floorDiv_f86c9 a4 a6 g1) (fun w6 g4 =>
  if (lg_cmp w3 w6) = 0 then (
  bd (fJ13_compare_74951 ((a0 - (w3 * a2)) * a6) ((a4 - (w6 * a6)) * a2) g4) (fun w9 g7 =>
  some (w9, g7)))
  else (
  if 0 ≤ (lg_cmp w3 w6) then (
  some ((1 : Int32), g4))
  else (
  some ((-1 : Int32), g4))))))
  else (
  some ((0 : Int32), h)))
theorem pX2_order_e    (a0 : Int64) (a2 : Int64) (a4 : Int64) (a6 : Int64) (h : xH) : S emI kX2_order h 0 [(0, .long a0), (2, .long a2), (4, .long a4), (6, .long a6)] [] h (fX2_order  a0 a2 a4 a6 h) := by
  unfold fX2_order
  refine s_lload_n (pc := 0) (k0 := 2) (i := 2) rfl 1 rfl (by decide +kernel) ?_
  refine s_lconst (pc := 1) (n := 0) (v := (0 : Int64)) (by decide) (by decide +kernel) ?_
  refine s_lcmp (pc := 2) (by decide +kernel) ?_
  refine s_if_le (pc := 3) (off := 10) 13 (by decide +kernel) (by decide) (fun _ => ?_) (fun _ => ?_)
  · refine s_iconst (pc := 13) (n := 0) (v := (0 : Int32)) (by decide) (by decide +kernel) ?_
    exact s_iret (pc := 14) rfl (by decide +kernel)
  · refine s_lload (pc := 6) (i := 6) 3 rfl (by decide +kernel) ?_
    refine s_lconst (pc := 8) (n := 0) (v := (0 : Int64)) (by decide) (by decide +kernel) ?_
    refine s_lcmp (pc := 9) (by decide +kernel) ?_
    refine s_if_gt (pc := 10) (off := 5) 15 (by decide +kernel) (by decide) (fun _ => ?_) (fun _ => ?_)
    · refine s_lload_n (pc := 15) (k0 := 0) (i := 0) rfl 0 rfl (by decide +kernel) ?_
      refine s_lload_n (pc := 16) (k0 := 2) (i := 2) rfl 1 rfl (by decide +kernel) ?_
      refine s_cSj (pc := 17) [.long a0, .long a2] (tJ9_floorDiv_f86c9 a0 a2 h) cw_X2_32 rfl ⟨⟨Nat.le_of_ble_eq_true rfl, Nat.le_of_ble_eq_true rfl⟩, Nat.le_of_ble_eq_true rfl⟩ rfl (by decide +kernel) (fun w3 g1 e2 => ?_)
      refine s_lstore (pc := 20) (L' := [(8, .long w3), (0, .long a0), (2, .long a2), (4, .long a4), (6, .long a6)]) (i := 8) (by decide) rfl (by decide +kernel) ?_
      refine s_lload (pc := 22) (i := 4) 3 rfl (by decide +kernel) ?_
      refine s_lload (pc := 24) (i := 6) 4 rfl (by decide +kernel) ?_
      refine s_cSj (pc := 26) [.long a4, .long a6] (tJ9_floorDiv_f86c9 a4 a6 g1) cw_X2_32 rfl ⟨⟨Nat.le_of_ble_eq_true rfl, Nat.le_of_ble_eq_true rfl⟩, Nat.le_of_ble_eq_true rfl⟩ rfl (by decide +kernel) (fun w6 g4 e5 => ?_)
      refine s_lstore (pc := 29) (L' := [(10, .long w6), (8, .long w3), (0, .long a0), (2, .long a2), (4, .long a4), (6, .long a6)]) (i := 10) (by decide) rfl (by decide +kernel) ?_
      refine s_lload (pc := 31) (i := 8) 1 rfl (by decide +kernel) ?_
      refine s_lload (pc := 33) (i := 10) 0 rfl (by decide +kernel) ?_
      refine s_lcmp (pc := 35) (by decide +kernel) ?_
      refine s_if_eq (pc := 36) (off := 17) 53 (by decide +kernel) (by decide) (fun _ => ?_) (fun _ => ?_)
      · refine s_lload_n (pc := 53) (k0 := 0) (i := 0) rfl 2 rfl (by decide +kernel) ?_
        refine s_lload (pc := 54) (i := 8) 1 rfl (by decide +kernel) ?_
        refine s_lload_n (pc := 56) (k0 := 2) (i := 2) rfl 3 rfl (by decide +kernel) ?_
        refine s_lmul (pc := 57) (by decide +kernel) ?_
        refine s_lsub (pc := 58) (by decide +kernel) ?_
        refine s_lload (pc := 59) (i := 6) 5 rfl (by decide +kernel) ?_
        refine s_lmul (pc := 61) (by decide +kernel) ?_
        refine s_lload (pc := 62) (i := 4) 4 rfl (by decide +kernel) ?_
        refine s_lload (pc := 64) (i := 10) 0 rfl (by decide +kernel) ?_
        refine s_lload (pc := 66) (i := 6) 5 rfl (by decide +kernel) ?_
        refine s_lmul (pc := 68) (by decide +kernel) ?_
        refine s_lsub (pc := 69) (by decide +kernel) ?_
        refine s_lload_n (pc := 70) (k0 := 2) (i := 2) rfl 3 rfl (by decide +kernel) ?_
        refine s_lmul (pc := 71) (by decide +kernel) ?_
        refine s_cSi (pc := 72) [.long ((a0 - (w3 * a2)) * a6), .long ((a4 - (w6 * a6)) * a2)] (tJ13_compare_74951 ((a0 - (w3 * a2)) * a6) ((a4 - (w6 * a6)) * a2) g4) cw_X2_37 rfl ⟨⟨Nat.le_of_ble_eq_true rfl, Nat.le_of_ble_eq_true rfl⟩, Nat.le_of_ble_eq_true rfl⟩ rfl (by decide +kernel) (fun w9 g7 e8 => ?_)
        exact s_iret (pc := 75) rfl (by decide +kernel)
      · refine s_lload (pc := 39) (i := 8) 1 rfl (by decide +kernel) ?_
        refine s_lload (pc := 41) (i := 10) 0 rfl (by decide +kernel) ?_
        refine s_lcmp (pc := 43) (by decide +kernel) ?_
        refine s_if_ge (pc := 44) (off := 7) 51 (by decide +kernel) (by decide) (fun _ => ?_) (fun _ => ?_)
        · refine s_iconst (pc := 51) (n := 1) (v := (1 : Int32)) (by decide) (by decide +kernel) ?_
          exact s_iret (pc := 52) rfl (by decide +kernel)
        · refine s_iconst (pc := 47) (n := -1) (v := (-1 : Int32)) (by decide) (by decide +kernel) ?_
          refine s_goto (pc := 48) (off := 4) 52 (by decide +kernel) (by decide) ?_
          exact s_iret (pc := 52) rfl (by decide +kernel)
    · refine s_iconst (pc := 13) (n := 0) (v := (0 : Int32)) (by decide) (by decide +kernel) ?_
      exact s_iret (pc := 14) rfl (by decide +kernel)
theorem tX2_order (a0 : Int64) (a2 : Int64) (a4 : Int64) (a6 : Int64) (h : xH) : Ct yX2_order kX2_order emI [.long a0, .long a2, .long a4, .long a6] h (fX2_order a0 a2 a4 a6 h) := Ct_of (by decide +kernel) rfl rfl rfl (Nat.le_of_ble_eq_true rfl) rfl (pX2_order_e a0 a2 a4 a6 h)
def fX2_commonDivisor_b15 (r15 : Int64 → Int64 → Int32 → xH → Option (Int64 × xH))  (a4 : Int64) (a6 : Int64) (a8 : Int32) (h : xH) : Option (Int64 × xH) :=
  if (200 : Int32) ≤ a8 then (
  some (a4, h))
  else (
  if (lg_cmp a6 (0 : Int64)) = 0 then (
  some (a4, h))
  else (
  if ¬ a6 = 0 then
  lt (a4 - a4 / a6 * a6) (fun v1 =>
  lt (a8 + (1 : Int32)) (fun v2 =>
  r15 a6 v1 v2 h))
  else none))
def fX2_commonDivisor_l15  : Nat → Int64 → Int64 → Int32 → xH → Option (Int64 × xH)
  | 0 => fun _ _ _ _ => none
  | k + 1 => fX2_commonDivisor_b15 (fX2_commonDivisor_l15  k)
def fX2_commonDivisor   (a0 : Int64) (a2 : Int64) (h : xH) : Option (Int64 × xH) :=
  bd (fJ9_abs_067f4 a0 h) (fun w3 g1 =>
  bd (fJ9_abs_067f4 a2 g1) (fun w6 g4 =>
  lt (0 : Int32) (fun v7 =>
  fX2_commonDivisor_l15 FU w3 w6 v7 g4)))
theorem pX2_commonDivisor_b15 {h0 : xH} {r15 : Int64 → Int64 → Int32 → xH → Option (Int64 × xH)} (hr15 : ∀  (a4 : Int64) (a6 : Int64) (a8 : Int32) (g : xH), S emJ kX2_commonDivisor h0 15 [(4, .long a4), (6, .long a6), (8, .int a8)] [] g (r15  a4 a6 a8 g))  (a4 : Int64) (a6 : Int64) (a8 : Int32) (h : xH) : S emJ kX2_commonDivisor h0 15 [(4, .long a4), (6, .long a6), (8, .int a8)] [] h (fX2_commonDivisor_b15 r15 a4 a6 a8 h) := by
  unfold fX2_commonDivisor_b15
  refine s_iload (pc := 15) (i := 8) 2 rfl (by decide +kernel) ?_
  refine s_sipush (pc := 17) (n := 200) (v := (200 : Int32)) (by decide) (by decide +kernel) ?_
  refine s_icmp_ge (pc := 20) (off := 31) 51 (by decide +kernel) (by decide) (fun _ => ?_) (fun _ => ?_)
  · refine s_lload (pc := 51) (i := 4) 0 rfl (by decide +kernel) ?_
    exact s_lret (pc := 53) rfl (by decide +kernel)
  · refine s_lload (pc := 23) (i := 6) 1 rfl (by decide +kernel) ?_
    refine s_lconst (pc := 25) (n := 0) (v := (0 : Int64)) (by decide) (by decide +kernel) ?_
    refine s_lcmp (pc := 26) (by decide +kernel) ?_
    refine s_if_eq (pc := 27) (off := 24) 51 (by decide +kernel) (by decide) (fun _ => ?_) (fun _ => ?_)
    · refine s_lload (pc := 51) (i := 4) 0 rfl (by decide +kernel) ?_
      exact s_lret (pc := 53) rfl (by decide +kernel)
    · refine s_lload (pc := 30) (i := 4) 0 rfl (by decide +kernel) ?_
      refine s_lload (pc := 32) (i := 6) 1 rfl (by decide +kernel) ?_
      refine s_lrem (pc := 34) (by decide +kernel) ?_
      refine s_nmJ (fun v1 => ?_)
      refine s_lstore (pc := 35) (L' := [(9, .long v1), (4, .long a4), (6, .long a6), (8, .int a8)]) (i := 9) (by decide) rfl (by decide +kernel) ?_
      refine s_lload (pc := 37) (i := 6) 2 rfl (by decide +kernel) ?_
      refine s_lstore (pc := 39) (L' := [(4, .long a6), (9, .long v1), (6, .long a6), (8, .int a8)]) (i := 4) (by decide) rfl (by decide +kernel) ?_
      refine s_lload (pc := 41) (i := 9) 1 rfl (by decide +kernel) ?_
      refine s_lstore (pc := 43) (L' := [(6, .long v1), (4, .long a6), (9, .long v1), (8, .int a8)]) (i := 6) (by decide) rfl (by decide +kernel) ?_
      refine s_iinc (pc := 45) (L' := [(8, .int (a8 + (1 : Int32))), (6, .long v1), (4, .long a6), (9, .long v1)]) (i := 8) (n := 1) 3 rfl rfl (by decide) rfl (by decide +kernel) ?_
      refine s_nmI0 (e := a8 + (1 : Int32)) (L := fun v2 => [(8, .int v2), (6, .long v1), (4, .long a6), (9, .long v1)]) (fun v2 => ?_)
      refine s_goto (pc := 48) (off := -33) 15 (by decide +kernel) (by decide) ?_
      refine S_sub [2, 1, 0] rfl ?_
      exact hr15 a6 v1 v2 h
theorem pX2_commonDivisor_l15 {h0 : xH}   : ∀ (k : Nat)  (a4 : Int64) (a6 : Int64) (a8 : Int32) (h : xH), S emJ kX2_commonDivisor h0 15 [(4, .long a4), (6, .long a6), (8, .int a8)] [] h (fX2_commonDivisor_l15  k  a4 a6 a8 h) := by
  intro k
  induction k with
  | zero => intros; exact S_none
  | succ k ih => intro  a4 a6 a8 h; exact pX2_commonDivisor_b15 ih  a4 a6 a8 h
theorem pX2_commonDivisor_e    (a0 : Int64) (a2 : Int64) (h : xH) : S emJ kX2_commonDivisor h 0 [(0, .long a0), (2, .long a2)] [] h (fX2_commonDivisor  a0 a2 h) := by
  unfold fX2_commonDivisor
  refine s_lload_n (pc := 0) (k0 := 0) (i := 0) rfl 0 rfl (by decide +kernel) ?_
  refine s_cSj (pc := 1) [.long a0] (tJ9_abs_067f4 a0 h) cw_X2_43 rfl ⟨⟨Nat.le_of_ble_eq_true rfl, Nat.le_of_ble_eq_true rfl⟩, Nat.le_of_ble_eq_true rfl⟩ rfl (by decide +kernel) (fun w3 g1 e2 => ?_)
  refine s_lstore (pc := 4) (L' := [(4, .long w3), (0, .long a0), (2, .long a2)]) (i := 4) (by decide) rfl (by decide +kernel) ?_
  refine s_lload_n (pc := 6) (k0 := 2) (i := 2) rfl 2 rfl (by decide +kernel) ?_
  refine s_cSj (pc := 7) [.long a2] (tJ9_abs_067f4 a2 g1) cw_X2_43 rfl ⟨⟨Nat.le_of_ble_eq_true rfl, Nat.le_of_ble_eq_true rfl⟩, Nat.le_of_ble_eq_true rfl⟩ rfl (by decide +kernel) (fun w6 g4 e5 => ?_)
  refine s_lstore (pc := 10) (L' := [(6, .long w6), (4, .long w3), (0, .long a0), (2, .long a2)]) (i := 6) (by decide) rfl (by decide +kernel) ?_
  refine s_iconst (pc := 12) (n := 0) (v := (0 : Int32)) (by decide) (by decide +kernel) ?_
  refine s_nmI (fun v7 => ?_)
  refine s_istore (pc := 13) (L' := [(8, .int v7), (6, .long w6), (4, .long w3), (0, .long a0), (2, .long a2)]) (i := 8) (by decide) rfl (by decide +kernel) ?_
  refine S_sub [2, 1, 0] rfl ?_
  exact pX2_commonDivisor_l15 FU w3 w6 v7 g4
theorem tX2_commonDivisor (a0 : Int64) (a2 : Int64) (h : xH) : Ct yX2_commonDivisor kX2_commonDivisor emJ [.long a0, .long a2] h (fX2_commonDivisor a0 a2 h) := Ct_of (by decide +kernel) rfl rfl rfl (Nat.le_of_ble_eq_true rfl) rfl (pX2_commonDivisor_e a0 a2 h)
def fX2_assign_b75  (s0 : Int64) (s1 : Nat)  (h : xH) : Option (Unit × xH) :=
  if kc h s1 = 2 then
  lt (sJ h s1 2 s0) (fun g2 =>
  some ((), g2))
  else none
def fX2_assign_b56  (s0 : Int64) (s1 : Nat) (a0 : Nat) (a3 : Int64) (a7 : Int64) (h : xH) : Option (Unit × xH) :=
  if kc h s1 = 2 then
  lt (sJ h s1 1 s0) (fun g2 =>
  if (lg_cmp a7 (0 : Int64)) = 0 then (
  fX2_assign_b75 a3 a0 g2)
  else (
  if ¬ a7 = 0 then
  fX2_assign_b75 (a3 / a7) a0 g2
  else none))
  else none
def fX2_assign_b33  (s0 : Int64) (a0 : Nat) (a1 : Int64) (a3 : Int64) (h : xH) : Option (Unit × xH) :=
  if kc h a0 = 2 then
  lt (sI h a0 0 (1 : Int32)) (fun g2 =>
  if (lg_cmp s0 (0 : Int64)) = 0 then (
  fX2_assign_b56 a1 a0 a0 a3 s0 g2)
  else (
  if ¬ s0 = 0 then
  fX2_assign_b56 (a1 / s0) a0 a0 a3 s0 g2
  else none))
  else none
def fX2_assign   (a0 : Nat) (a1 : Int64) (a3 : Int64) (h : xH) : Option (Unit × xH) :=
  if (lg_cmp a3 (0 : Int64)) = 0 then (
  if kc h a0 = 2 then
  lt (sI h a0 0 (0 : Int32)) (fun g5 =>
  some ((), g5))
  else none)
  else (
  bd (fX2_commonDivisor a1 a3 h) (fun w3 g1 =>
  if 0 ≤ (lg_cmp a3 (0 : Int64)) then (
  fX2_assign_b33 w3 a0 a1 a3 g1)
  else (
  fX2_assign_b33 (-w3) a0 a1 a3 g1)))
theorem pX2_assign_b75 {h0 : xH}   (s0 : Int64) (s1 : Nat)  (h : xH) : S emV kX2_assign h0 75 [] [.long s0, .ref s1] h (fX2_assign_b75 s0 s1 h) := by
  unfold fX2_assign_b75
  refine S_gd (fun c1 => ?_)
  refine s_putJ (pc := 75) (k := 2) c1 ft_X2_17 (fw_2_2 _ _) rfl rfl (by decide +kernel) ?_
  refine s_nmH (o := h) rfl (fun g2 e3 => ?_)
  exact s_vret (pc := 78) rfl (by decide +kernel)
theorem pX2_assign_b56 {h0 : xH}   (s0 : Int64) (s1 : Nat) (a0 : Nat) (a3 : Int64) (a7 : Int64) (h : xH) : S emV kX2_assign h0 56 [(0, .ref a0), (3, .long a3), (7, .long a7)] [.long s0, .ref s1] h (fX2_assign_b56 s0 s1 a0 a3 a7 h) := by
  unfold fX2_assign_b56
  refine S_gd (fun c1 => ?_)
  refine s_putJ (pc := 56) (k := 1) c1 ft_X2_13 (fw_2_1 _ _) rfl rfl (by decide +kernel) ?_
  refine s_nmH (o := h) rfl (fun g2 e3 => ?_)
  refine s_aload_n (pc := 59) (k0 := 0) (i := 0) rfl 0 rfl (by decide +kernel) ?_
  refine s_lload (pc := 60) (i := 7) 2 rfl (by decide +kernel) ?_
  refine s_lconst (pc := 62) (n := 0) (v := (0 : Int64)) (by decide) (by decide +kernel) ?_
  refine s_lcmp (pc := 63) (by decide +kernel) ?_
  refine s_if_ne (pc := 64) (off := 7) 71 (by decide +kernel) (by decide) (fun _ => ?_) (fun _ => ?_)
  · refine s_lload_n (pc := 67) (k0 := 3) (i := 3) rfl 1 rfl (by decide +kernel) ?_
    refine s_goto (pc := 68) (off := 7) 75 (by decide +kernel) (by decide) ?_
    refine S_sub [] rfl ?_
    exact pX2_assign_b75 a3 a0 g2
  · refine s_lload_n (pc := 71) (k0 := 3) (i := 3) rfl 1 rfl (by decide +kernel) ?_
    refine s_lload (pc := 72) (i := 7) 2 rfl (by decide +kernel) ?_
    refine s_ldiv (pc := 74) (by decide +kernel) ?_
    refine S_sub [] rfl ?_
    exact pX2_assign_b75 (a3 / a7) a0 g2
theorem pX2_assign_b33 {h0 : xH}   (s0 : Int64) (a0 : Nat) (a1 : Int64) (a3 : Int64) (h : xH) : S emV kX2_assign h0 33 [(0, .ref a0), (1, .long a1), (3, .long a3)] [.long s0] h (fX2_assign_b33 s0 a0 a1 a3 h) := by
  unfold fX2_assign_b33
  refine s_lstore (pc := 33) (L' := [(7, .long s0), (0, .ref a0), (1, .long a1), (3, .long a3)]) (i := 7) (by decide) rfl (by decide +kernel) ?_
  refine s_aload_n (pc := 35) (k0 := 0) (i := 0) rfl 1 rfl (by decide +kernel) ?_
  refine s_iconst (pc := 36) (n := 1) (v := (1 : Int32)) (by decide) (by decide +kernel) ?_
  refine S_gd (fun c1 => ?_)
  refine s_putZ (pc := 37) (k := 0) (by decide) c1 ft_X2_7 (fw_2_0 _ _) rfl rfl (by decide +kernel) ?_
  refine s_nmH (o := h) rfl (fun g2 e3 => ?_)
  refine s_aload_n (pc := 40) (k0 := 0) (i := 0) rfl 1 rfl (by decide +kernel) ?_
  refine s_lload (pc := 41) (i := 7) 0 rfl (by decide +kernel) ?_
  refine s_lconst (pc := 43) (n := 0) (v := (0 : Int64)) (by decide) (by decide +kernel) ?_
  refine s_lcmp (pc := 44) (by decide +kernel) ?_
  refine s_if_ne (pc := 45) (off := 7) 52 (by decide +kernel) (by decide) (fun _ => ?_) (fun _ => ?_)
  · refine s_lload_n (pc := 48) (k0 := 1) (i := 1) rfl 2 rfl (by decide +kernel) ?_
    refine s_goto (pc := 49) (off := 7) 56 (by decide +kernel) (by decide) ?_
    refine S_sub [1, 3, 0] rfl ?_
    exact pX2_assign_b56 a1 a0 a0 a3 s0 g2
  · refine s_lload_n (pc := 52) (k0 := 1) (i := 1) rfl 2 rfl (by decide +kernel) ?_
    refine s_lload (pc := 53) (i := 7) 0 rfl (by decide +kernel) ?_
    refine s_ldiv (pc := 55) (by decide +kernel) ?_
    refine S_sub [1, 3, 0] rfl ?_
    exact pX2_assign_b56 (a1 / s0) a0 a0 a3 s0 g2
theorem pX2_assign_e    (a0 : Nat) (a1 : Int64) (a3 : Int64) (h : xH) : S emV kX2_assign h 0 [(0, .ref a0), (1, .long a1), (3, .long a3)] [] h (fX2_assign  a0 a1 a3 h) := by
  unfold fX2_assign
  refine s_lload_n (pc := 0) (k0 := 3) (i := 3) rfl 2 rfl (by decide +kernel) ?_
  refine s_lconst (pc := 1) (n := 0) (v := (0 : Int64)) (by decide) (by decide +kernel) ?_
  refine s_lcmp (pc := 2) (by decide +kernel) ?_
  refine s_if_ne (pc := 3) (off := 9) 12 (by decide +kernel) (by decide) (fun _ => ?_) (fun _ => ?_)
  · refine s_aload_n (pc := 6) (k0 := 0) (i := 0) rfl 0 rfl (by decide +kernel) ?_
    refine s_iconst (pc := 7) (n := 0) (v := (0 : Int32)) (by decide) (by decide +kernel) ?_
    refine S_gd (fun c4 => ?_)
    refine s_putZ (pc := 8) (k := 0) (by decide) c4 ft_X2_7 (fw_2_0 _ _) rfl rfl (by decide +kernel) ?_
    refine s_nmH (o := h) rfl (fun g5 e6 => ?_)
    exact s_vret (pc := 11) rfl (by decide +kernel)
  · refine s_lload_n (pc := 12) (k0 := 1) (i := 1) rfl 1 rfl (by decide +kernel) ?_
    refine s_lload_n (pc := 13) (k0 := 3) (i := 3) rfl 2 rfl (by decide +kernel) ?_
    refine s_cSj (pc := 14) [.long a1, .long a3] (tX2_commonDivisor a1 a3 h) cw_X2_20 rfl ⟨⟨Nat.le_of_ble_eq_true rfl, Nat.le_of_ble_eq_true rfl⟩, Nat.le_of_ble_eq_true rfl⟩ rfl (by decide +kernel) (fun w3 g1 e2 => ?_)
    refine s_lstore (pc := 17) (L' := [(5, .long w3), (0, .ref a0), (1, .long a1), (3, .long a3)]) (i := 5) (by decide) rfl (by decide +kernel) ?_
    refine s_lload_n (pc := 19) (k0 := 3) (i := 3) rfl 3 rfl (by decide +kernel) ?_
    refine s_lconst (pc := 20) (n := 0) (v := (0 : Int64)) (by decide) (by decide +kernel) ?_
    refine s_lcmp (pc := 21) (by decide +kernel) ?_
    refine s_if_ge (pc := 22) (off := 9) 31 (by decide +kernel) (by decide) (fun _ => ?_) (fun _ => ?_)
    · refine s_lload (pc := 31) (i := 5) 0 rfl (by decide +kernel) ?_
      refine S_sub [1, 2, 3] rfl ?_
      exact pX2_assign_b33 w3 a0 a1 a3 g1
    · refine s_lload (pc := 25) (i := 5) 0 rfl (by decide +kernel) ?_
      refine s_lneg (pc := 27) (by decide +kernel) ?_
      refine s_goto (pc := 28) (off := 5) 33 (by decide +kernel) (by decide) ?_
      refine S_sub [1, 2, 3] rfl ?_
      exact pX2_assign_b33 (-w3) a0 a1 a3 g1
theorem tX2_assign (a0 : Nat) (a1 : Int64) (a3 : Int64) (h : xH) : Ct yX2_assign kX2_assign emV [.ref a0, .long a1, .long a3] h (fX2_assign a0 a1 a3 h) := Ct_of (by decide +kernel) rfl rfl rfl (Nat.le_of_ble_eq_true rfl) rfl (pX2_assign_e a0 a1 a3 h)
def fX2_forget   (a0 : Nat) (h : xH) : Option (Unit × xH) :=
  if kc h a0 = 2 then
  lt (sI h a0 0 (0 : Int32)) (fun g2 =>
  some ((), g2))
  else none
theorem pX2_forget_e    (a0 : Nat) (h : xH) : S emV kX2_forget h 0 [(0, .ref a0)] [] h (fX2_forget  a0 h) := by
  unfold fX2_forget
  refine s_aload_n (pc := 0) (k0 := 0) (i := 0) rfl 0 rfl (by decide +kernel) ?_
  refine s_iconst (pc := 1) (n := 0) (v := (0 : Int32)) (by decide) (by decide +kernel) ?_
  refine S_gd (fun c1 => ?_)
  refine s_putZ (pc := 2) (k := 0) (by decide) c1 ft_X2_7 (fw_2_0 _ _) rfl rfl (by decide +kernel) ?_
  refine s_nmH (o := h) rfl (fun g2 e3 => ?_)
  exact s_vret (pc := 5) rfl (by decide +kernel)
theorem tX2_forget (a0 : Nat) (h : xH) : Ct yX2_forget kX2_forget emV [.ref a0] h (fX2_forget a0 h) := Ct_of (by decide +kernel) rfl rfl rfl (Nat.le_of_ble_eq_true rfl) rfl (pX2_forget_e a0 h)
def fX2_add   (a0 : Nat) (a1 : Nat) (h : xH) : Option (Unit × xH) :=
  if kc h a0 = 2 then
  if kc h a1 = 2 then
  bd (fX2_assign a0 (((hJ h a0 1) * (hJ h a1 2)) + ((hJ h a1 1) * (hJ h a0 2))) ((hJ h a0 2) * (hJ h a1 2)) h) (fun _ g3 =>
  some ((), g3))
  else none
  else none
theorem pX2_add_e    (a0 : Nat) (a1 : Nat) (h : xH) : S emV kX2_add h 0 [(0, .ref a0), (1, .ref a1)] [] h (fX2_add  a0 a1 h) := by
  unfold fX2_add
  refine s_aload_n (pc := 0) (k0 := 0) (i := 0) rfl 0 rfl (by decide +kernel) ?_
  refine s_aload_n (pc := 1) (k0 := 0) (i := 0) rfl 0 rfl (by decide +kernel) ?_
  refine S_gd (fun c1 => ?_)
  refine s_getJ (pc := 2) (k := 1) c1 ft_X2_13 rfl (by decide +kernel) ?_
  refine s_aload_n (pc := 5) (k0 := 1) (i := 1) rfl 1 rfl (by decide +kernel) ?_
  refine S_gd (fun c2 => ?_)
  refine s_getJ (pc := 6) (k := 2) c2 ft_X2_17 rfl (by decide +kernel) ?_
  refine s_lmul (pc := 9) (by decide +kernel) ?_
  refine s_aload_n (pc := 10) (k0 := 1) (i := 1) rfl 1 rfl (by decide +kernel) ?_
  refine s_getJ (pc := 11) (k := 1) c2 ft_X2_13 rfl (by decide +kernel) ?_
  refine s_aload_n (pc := 14) (k0 := 0) (i := 0) rfl 0 rfl (by decide +kernel) ?_
  refine s_getJ (pc := 15) (k := 2) c1 ft_X2_17 rfl (by decide +kernel) ?_
  refine s_lmul (pc := 18) (by decide +kernel) ?_
  refine s_ladd (pc := 19) (by decide +kernel) ?_
  refine s_aload_n (pc := 20) (k0 := 0) (i := 0) rfl 0 rfl (by decide +kernel) ?_
  refine s_getJ (pc := 21) (k := 2) c1 ft_X2_17 rfl (by decide +kernel) ?_
  refine s_aload_n (pc := 24) (k0 := 1) (i := 1) rfl 1 rfl (by decide +kernel) ?_
  refine s_getJ (pc := 25) (k := 2) c2 ft_X2_17 rfl (by decide +kernel) ?_
  refine s_lmul (pc := 28) (by decide +kernel) ?_
  refine s_cVv (pc := 29) [.long (((hJ h a0 1) * (hJ h a1 2)) + ((hJ h a1 1) * (hJ h a0 2))), .long ((hJ h a0 2) * (hJ h a1 2))] (tX2_assign a0 (((hJ h a0 1) * (hJ h a1 2)) + ((hJ h a1 1) * (hJ h a0 2))) ((hJ h a0 2) * (hJ h a1 2)) h) c1 cw_X2_24 rfl ⟨⟨Nat.le_of_ble_eq_true rfl, Nat.le_of_ble_eq_true rfl⟩, Nat.le_of_ble_eq_true rfl⟩ rfl (by decide +kernel) (fun _ g3 e4 => ?_)
  exact s_vret (pc := 32) rfl (by decide +kernel)
theorem tX2_add (a0 : Nat) (a1 : Nat) (h : xH) : Ct yX2_add kX2_add emV [.ref a0, .ref a1] h (fX2_add a0 a1 h) := Ct_of (by decide +kernel) rfl rfl rfl (Nat.le_of_ble_eq_true rfl) rfl (pX2_add_e a0 a1 h)
def fX2_orderTo   (a0 : Nat) (a1 : Nat) (h : xH) : Option (Int32 × xH) :=
  if kc h a0 = 2 then
  if kc h a1 = 2 then
  bd (fX2_order (hJ h a0 1) (hJ h a0 2) (hJ h a1 1) (hJ h a1 2) h) (fun w5 g3 =>
  some (w5, g3))
  else none
  else none
theorem pX2_orderTo_e    (a0 : Nat) (a1 : Nat) (h : xH) : S emI kX2_orderTo h 0 [(0, .ref a0), (1, .ref a1)] [] h (fX2_orderTo  a0 a1 h) := by
  unfold fX2_orderTo
  refine s_aload_n (pc := 0) (k0 := 0) (i := 0) rfl 0 rfl (by decide +kernel) ?_
  refine S_gd (fun c1 => ?_)
  refine s_getJ (pc := 1) (k := 1) c1 ft_X2_13 rfl (by decide +kernel) ?_
  refine s_aload_n (pc := 4) (k0 := 0) (i := 0) rfl 0 rfl (by decide +kernel) ?_
  refine s_getJ (pc := 5) (k := 2) c1 ft_X2_17 rfl (by decide +kernel) ?_
  refine s_aload_n (pc := 8) (k0 := 1) (i := 1) rfl 1 rfl (by decide +kernel) ?_
  refine S_gd (fun c2 => ?_)
  refine s_getJ (pc := 9) (k := 1) c2 ft_X2_13 rfl (by decide +kernel) ?_
  refine s_aload_n (pc := 12) (k0 := 1) (i := 1) rfl 1 rfl (by decide +kernel) ?_
  refine s_getJ (pc := 13) (k := 2) c2 ft_X2_17 rfl (by decide +kernel) ?_
  refine s_cSi (pc := 16) [.long (hJ h a0 1), .long (hJ h a0 2), .long (hJ h a1 1), .long (hJ h a1 2)] (tX2_order (hJ h a0 1) (hJ h a0 2) (hJ h a1 1) (hJ h a1 2) h) cw_X2_28 rfl ⟨⟨Nat.le_of_ble_eq_true rfl, Nat.le_of_ble_eq_true rfl⟩, Nat.le_of_ble_eq_true rfl⟩ rfl (by decide +kernel) (fun w5 g3 e4 => ?_)
  exact s_iret (pc := 19) rfl (by decide +kernel)
theorem tX2_orderTo (a0 : Nat) (a1 : Nat) (h : xH) : Ct yX2_orderTo kX2_orderTo emI [.ref a0, .ref a1] h (fX2_orderTo a0 a1 h) := Ct_of (by decide +kernel) rfl rfl rfl (Nat.le_of_ble_eq_true rfl) rfl (pX2_orderTo_e a0 a1 h)
