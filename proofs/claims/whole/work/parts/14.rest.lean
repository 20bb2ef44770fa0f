def fX0_init_b46 (r46 : Nat → Int32 → xH → Option (Unit × xH))  (a0 : Nat) (a1 : Int32) (h : xH) : Option (Unit × xH) :=
  if (8 : Int32) ≤ a1 then (
  some ((), h))
  else (
  if kc h a0 = 0 then
  lt (hnx h) (fun q3 => lt (hnew h 4 0) (fun g2 =>
  bd (fX4_init q3 g2) (fun _ g6 =>
  if kc g6 (hR h a0 5) = 12 then
  if ix a1 (kl g6 (hR h a0 5)) then
  lt (sR g6 (hR h a0 5) a1.toNatClampNeg q3) (fun g11 =>
  lt (a1 + (1 : Int32)) (fun v13 =>
  r46 a0 v13 g11))
  else none
  else none)))
  else none)
def fX0_init_l46  : Nat → Nat → Int32 → xH → Option (Unit × xH)
  | 0 => fun _ _ _ => none
  | k + 1 => fX0_init_b46 (fX0_init_l46  k)
def fX0_init   (a0 : Nat) (h : xH) : Option (Unit × xH) :=
  if kc h a0 = 0 then
  lt (sI h a0 0 (0 : Int32)) (fun g2 =>
  lt (sI g2 a0 1 (0 : Int32)) (fun g5 =>
  lt (sI g5 a0 2 (0 : Int32)) (fun g8 =>
  lt (hnx g8) (fun q11 => lt (hnew g8 8 (8 : Int32).toNatClampNeg) (fun g10 =>
  lt (sR g10 a0 3 q11) (fun g15 =>
  lt (hnx g15) (fun q18 => lt (hnew g15 8 (8 : Int32).toNatClampNeg) (fun g17 =>
  lt (sR g17 a0 4 q18) (fun g22 =>
  lt (hnx g22) (fun q25 => lt (hnew g22 12 (8 : Int32).toNatClampNeg) (fun g24 =>
  lt (sR g24 a0 5 q25) (fun g29 =>
  lt (0 : Int32) (fun v31 =>
  fX0_init_l46 FU a0 v31 g29)))))))))))))
  else none
theorem pX0_init_b46 {h0 : xH} {r46 : Nat → Int32 → xH → Option (Unit × xH)} (hr46 : ∀  (a0 : Nat) (a1 : Int32) (g : xH), S emV kX0_init h0 46 [(0, .ref a0), (1, .int a1)] [] g (r46  a0 a1 g))  (a0 : Nat) (a1 : Int32) (h : xH) : S emV kX0_init h0 46 [(0, .ref a0), (1, .int a1)] [] h (fX0_init_b46 r46 a0 a1 h) := by
  unfold fX0_init_b46
  refine s_iload_n (pc := 46) (k0 := 1) (i := 1) rfl 1 rfl (by decide +kernel) ?_
  refine s_bipush (pc := 47) (n := 8) (v := (8 : Int32)) (by decide) (by decide +kernel) ?_
  refine s_icmp_ge (pc := 49) (off := 22) 71 (by decide +kernel) (by decide) (fun _ => ?_) (fun _ => ?_)
  · exact s_vret (pc := 71) rfl (by decide +kernel)
  · refine s_aload_n (pc := 52) (k0 := 0) (i := 0) rfl 0 rfl (by decide +kernel) ?_
    refine S_gd (fun c1 => ?_)
    refine s_getR (pc := 53) (k := 5) c1 ft_X0_30 rfl (by decide +kernel) ?_
    refine s_iload_n (pc := 56) (k0 := 1) (i := 1) rfl 1 rfl (by decide +kernel) ?_
    refine s_new (pc := 57) nt_X0_28 dv_4 (by decide +kernel) ?_
    refine s_nmN (fun q3 g2 c5 e4 => ?_)
    refine s_dup_a (pc := 60) (by decide +kernel) ?_
    refine s_cIN (pc := 61) [] (tX4_init q3 g2) (k2r c5 (by decide)) rfl cw_X0_34 rfl (mwi_X4_init) rfl ⟨⟨Nat.le_of_ble_eq_true rfl, Nat.le_of_ble_eq_true rfl⟩, Nat.le_of_ble_eq_true rfl⟩ rfl (by decide +kernel) (fun _ g6 e7 => ?_)
    have c8 := kp e7 c5 (by decide)
    refine S_gd (fun c9 => ?_)
    refine S_gd (fun c10 => ?_)
    refine s_aast (pc := 64) c8 c9 c10 (by decide +kernel) ?_
    refine s_nmH (o := g6) rfl (fun g11 e12 => ?_)
    refine s_iinc (pc := 65) (L' := [(1, .int (a1 + (1 : Int32))), (0, .ref a0)]) (i := 1) (n := 1) 1 rfl rfl (by decide) rfl (by decide +kernel) ?_
    refine s_nmI0 (e := a1 + (1 : Int32)) (L := fun v13 => [(1, .int v13), (0, .ref a0)]) (fun v13 => ?_)
    refine s_goto (pc := 68) (off := -22) 46 (by decide +kernel) (by decide) ?_
    refine S_sub [1, 0] rfl ?_
    exact hr46 a0 v13 g11
theorem pX0_init_l46 {h0 : xH}   : ∀ (k : Nat)  (a0 : Nat) (a1 : Int32) (h : xH), S emV kX0_init h0 46 [(0, .ref a0), (1, .int a1)] [] h (fX0_init_l46  k  a0 a1 h) := by
  intro k
  induction k with
  | zero => intros; exact S_none
  | succ k ih => intro  a0 a1 h; exact pX0_init_b46 ih  a0 a1 h
theorem pX0_init_e    (a0 : Nat) (h : xH) : S emV kX0_init h 0 [(0, .ref a0)] [] h (fX0_init  a0 h) := by
  unfold fX0_init
  refine s_aload_n (pc := 0) (k0 := 0) (i := 0) rfl 0 rfl (by decide +kernel) ?_
  refine S_gd (fun c1 => ?_)
  refine s_objInit (pc := 1) (index := 3) (k2r c1 (by decide)) ml_X0_3 oi_1 oi_2 (by decide) (by decide +kernel) ?_
  refine s_aload_n (pc := 4) (k0 := 0) (i := 0) rfl 0 rfl (by decide +kernel) ?_
  refine s_iconst (pc := 5) (n := 0) (v := (0 : Int32)) (by decide) (by decide +kernel) ?_
  refine s_putI (pc := 6) (k := 0) c1 ft_X0_9 (fw_0_0 _ _) rfl rfl (by decide +kernel) ?_
  refine s_nmH (o := h) rfl (fun g2 e3 => ?_)
  refine s_aload_n (pc := 9) (k0 := 0) (i := 0) rfl 0 rfl (by decide +kernel) ?_
  refine s_iconst (pc := 10) (n := 0) (v := (0 : Int32)) (by decide) (by decide +kernel) ?_
  have c4 := kp e3 c1 (by decide)
  refine s_putI (pc := 11) (k := 1) c4 ft_X0_15 (fw_0_1 _ _) rfl rfl (by decide +kernel) ?_
  refine s_nmH (o := g2) rfl (fun g5 e6 => ?_)
  refine s_aload_n (pc := 14) (k0 := 0) (i := 0) rfl 0 rfl (by decide +kernel) ?_
  refine s_iconst (pc := 15) (n := 0) (v := (0 : Int32)) (by decide) (by decide +kernel) ?_
  have c7 := kp e6 c4 (by decide)
  refine s_putI (pc := 16) (k := 2) c7 ft_X0_18 (fw_0_2 _ _) rfl rfl (by decide +kernel) ?_
  refine s_nmH (o := g5) rfl (fun g8 e9 => ?_)
  refine s_aload_n (pc := 19) (k0 := 0) (i := 0) rfl 0 rfl (by decide +kernel) ?_
  refine s_bipush (pc := 20) (n := 8) (v := (8 : Int32)) (by decide) (by decide +kernel) ?_
  refine s_newI (pc := 22) (by decide) (by decide +kernel) ?_
  refine s_nmN (fun q11 g10 c13 e12 => ?_)
  have c14 := kp (Le.tr e9 e12) c7 (by decide)
  refine s_putR (pc := 24) (k := 3) c14 ft_X0_21 fwF_0_3 rfl rfl (by decide +kernel) ?_
  refine s_nmH (o := g10) rfl (fun g15 e16 => ?_)
  refine s_aload_n (pc := 27) (k0 := 0) (i := 0) rfl 0 rfl (by decide +kernel) ?_
  refine s_bipush (pc := 28) (n := 8) (v := (8 : Int32)) (by decide) (by decide +kernel) ?_
  refine s_newI (pc := 30) (by decide) (by decide +kernel) ?_
  refine s_nmN (fun q18 g17 c20 e19 => ?_)
  have c21 := kp (Le.tr e16 e19) c14 (by decide)
  refine s_putR (pc := 32) (k := 4) c21 ft_X0_25 fwF_0_4 rfl rfl (by decide +kernel) ?_
  refine s_nmH (o := g17) rfl (fun g22 e23 => ?_)
  refine s_aload_n (pc := 35) (k0 := 0) (i := 0) rfl 0 rfl (by decide +kernel) ?_
  refine s_bipush (pc := 36) (n := 8) (v := (8 : Int32)) (by decide) (by decide +kernel) ?_
  refine s_newS (pc := 38) (index := 28) (gd_of 67 (by decide +kernel) rfl) (by decide) (by decide +kernel) ?_
  refine s_nmN (fun q25 g24 c27 e26 => ?_)
  have c28 := kp (Le.tr e23 e26) c21 (by decide)
  refine s_putR (pc := 41) (k := 5) c28 ft_X0_30 fwF_0_5 rfl rfl (by decide +kernel) ?_
  refine s_nmH (o := g24) rfl (fun g29 e30 => ?_)
  refine s_iconst (pc := 44) (n := 0) (v := (0 : Int32)) (by decide) (by decide +kernel) ?_
  refine s_nmI (fun v31 => ?_)
  refine s_istore_n (pc := 45) (L' := [(1, .int v31), (0, .ref a0)]) (k0 := 1) (i := 1) rfl (by decide) rfl (by decide +kernel) ?_
  refine S_sub [1, 0] rfl ?_
  exact pX0_init_l46 FU a0 v31 g29
theorem tX0_init (a0 : Nat) (h : xH) : Ct yX0_init kX0_init emV [.ref a0] h (fX0_init a0 h) := Ct_of (by decide +kernel) rfl rfl rfl (Nat.le_of_ble_eq_true rfl) rfl (pX0_init_e a0 h)
def fX5_init   (a0 : Nat) (h : xH) : Option (Unit × xH) :=
  if kc h a0 = 5 then
  lt (sI h a0 0 (0 : Int32)) (fun g2 =>
  lt (sI g2 a0 1 (-1 : Int32)) (fun g5 =>
  lt (hnx g5) (fun q8 => lt (hnew g5 11 (400 : Int32).toNatClampNeg) (fun g7 =>
  lt (sR g7 a0 2 q8) (fun g12 =>
  lt (sI g12 a0 3 (0 : Int32)) (fun g15 =>
  lt (sI g15 a0 4 (0 : Int32)) (fun g18 =>
  lt (sI g18 a0 5 (0 : Int32)) (fun g21 =>
  lt (sI g21 a0 6 (0 : Int32)) (fun g24 =>
  lt (sI g24 a0 7 (0 : Int32)) (fun g27 =>
  lt (sI g27 a0 8 (0 : Int32)) (fun g30 =>
  lt (sI g30 a0 9 (0 : Int32)) (fun g33 =>
  lt (sI g33 a0 10 (0 : Int32)) (fun g36 =>
  some ((), g36))))))))))))))
  else none
theorem pX5_init_e    (a0 : Nat) (h : xH) : S emV kX5_init h 0 [(0, .ref a0)] [] h (fX5_init  a0 h) := by
  unfold fX5_init
  refine s_aload_n (pc := 0) (k0 := 0) (i := 0) rfl 0 rfl (by decide +kernel) ?_
  refine S_gd (fun c1 => ?_)
  refine s_objInit (pc := 1) (index := 3) (k2r c1 (by decide)) ml_X5_3 oi_1 oi_2 (by decide) (by decide +kernel) ?_
  refine s_aload_n (pc := 4) (k0 := 0) (i := 0) rfl 0 rfl (by decide +kernel) ?_
  refine s_iconst (pc := 5) (n := 0) (v := (0 : Int32)) (by decide) (by decide +kernel) ?_
  refine s_putI (pc := 6) (k := 0) c1 ft_X5_9 (fw_5_0 _ _) rfl rfl (by decide +kernel) ?_
  refine s_nmH (o := h) rfl (fun g2 e3 => ?_)
  refine s_aload_n (pc := 9) (k0 := 0) (i := 0) rfl 0 rfl (by decide +kernel) ?_
  refine s_iconst (pc := 10) (n := -1) (v := (-1 : Int32)) (by decide) (by decide +kernel) ?_
  have c4 := kp e3 c1 (by decide)
  refine s_putI (pc := 11) (k := 1) c4 ft_X5_15 (fw_5_1 _ _) rfl rfl (by decide +kernel) ?_
  refine s_nmH (o := g2) rfl (fun g5 e6 => ?_)
  refine s_aload_n (pc := 14) (k0 := 0) (i := 0) rfl 0 rfl (by decide +kernel) ?_
  refine s_sipush (pc := 15) (n := 400) (v := (400 : Int32)) (by decide) (by decide +kernel) ?_
  refine s_newB (pc := 18) (by decide) (by decide +kernel) ?_
  refine s_nmN (fun q8 g7 c10 e9 => ?_)
  have c11 := kp (Le.tr e6 e9) c4 (by decide)
  refine s_putR (pc := 20) (k := 2) c11 ft_X5_18 fwF_5_2 rfl rfl (by decide +kernel) ?_
  refine s_nmH (o := g7) rfl (fun g12 e13 => ?_)
  refine s_aload_n (pc := 23) (k0 := 0) (i := 0) rfl 0 rfl (by decide +kernel) ?_
  refine s_iconst (pc := 24) (n := 0) (v := (0 : Int32)) (by decide) (by decide +kernel) ?_
  have c14 := kp e13 c11 (by decide)
  refine s_putI (pc := 25) (k := 3) c14 ft_X5_22 (fw_5_3 _ _) rfl rfl (by decide +kernel) ?_
  refine s_nmH (o := g12) rfl (fun g15 e16 => ?_)
  refine s_aload_n (pc := 28) (k0 := 0) (i := 0) rfl 0 rfl (by decide +kernel) ?_
  refine s_iconst (pc := 29) (n := 0) (v := (0 : Int32)) (by decide) (by decide +kernel) ?_
  have c17 := kp e16 c14 (by decide)
  refine s_putI (pc := 30) (k := 4) c17 ft_X5_25 (fw_5_4 _ _) rfl rfl (by decide +kernel) ?_
  refine s_nmH (o := g15) rfl (fun g18 e19 => ?_)
  refine s_aload_n (pc := 33) (k0 := 0) (i := 0) rfl 0 rfl (by decide +kernel) ?_
  refine s_iconst (pc := 34) (n := 0) (v := (0 : Int32)) (by decide) (by decide +kernel) ?_
  have c20 := kp e19 c17 (by decide)
  refine s_putI (pc := 35) (k := 5) c20 ft_X5_28 (fw_5_5 _ _) rfl rfl (by decide +kernel) ?_
  refine s_nmH (o := g18) rfl (fun g21 e22 => ?_)
  refine s_aload_n (pc := 38) (k0 := 0) (i := 0) rfl 0 rfl (by decide +kernel) ?_
  refine s_iconst (pc := 39) (n := 0) (v := (0 : Int32)) (by decide) (by decide +kernel) ?_
  have c23 := kp e22 c20 (by decide)
  refine s_putI (pc := 40) (k := 6) c23 ft_X5_31 (fw_5_6 _ _) rfl rfl (by decide +kernel) ?_
  refine s_nmH (o := g21) rfl (fun g24 e25 => ?_)
  refine s_aload_n (pc := 43) (k0 := 0) (i := 0) rfl 0 rfl (by decide +kernel) ?_
  refine s_iconst (pc := 44) (n := 0) (v := (0 : Int32)) (by decide) (by decide +kernel) ?_
  have c26 := kp e25 c23 (by decide)
  refine s_putI (pc := 45) (k := 7) c26 ft_X5_34 (fw_5_7 _ _) rfl rfl (by decide +kernel) ?_
  refine s_nmH (o := g24) rfl (fun g27 e28 => ?_)
  refine s_aload_n (pc := 48) (k0 := 0) (i := 0) rfl 0 rfl (by decide +kernel) ?_
  refine s_iconst (pc := 49) (n := 0) (v := (0 : Int32)) (by decide) (by decide +kernel) ?_
  have c29 := kp e28 c26 (by decide)
  refine s_putI (pc := 50) (k := 8) c29 ft_X5_37 (fw_5_8 _ _) rfl rfl (by decide +kernel) ?_
  refine s_nmH (o := g27) rfl (fun g30 e31 => ?_)
  refine s_aload_n (pc := 53) (k0 := 0) (i := 0) rfl 0 rfl (by decide +kernel) ?_
  refine s_iconst (pc := 54) (n := 0) (v := (0 : Int32)) (by decide) (by decide +kernel) ?_
  have c32 := kp e31 c29 (by decide)
  refine s_putI (pc := 55) (k := 9) c32 ft_X5_40 (fw_5_9 _ _) rfl rfl (by decide +kernel) ?_
  refine s_nmH (o := g30) rfl (fun g33 e34 => ?_)
  refine s_aload_n (pc := 58) (k0 := 0) (i := 0) rfl 0 rfl (by decide +kernel) ?_
  refine s_iconst (pc := 59) (n := 0) (v := (0 : Int32)) (by decide) (by decide +kernel) ?_
  have c35 := kp e34 c32 (by decide)
  refine s_putI (pc := 60) (k := 10) c35 ft_X5_43 (fw_5_10 _ _) rfl rfl (by decide +kernel) ?_
  refine s_nmH (o := g33) rfl (fun g36 e37 => ?_)
  exact s_vret (pc := 63) rfl (by decide +kernel)
theorem tX5_init (a0 : Nat) (h : xH) : Ct yX5_init kX5_init emV [.ref a0] h (fX5_init a0 h) := Ct_of (by decide +kernel) rfl rfl rfl (Nat.le_of_ble_eq_true rfl) rfl (pX5_init_e a0 h)
def fX3_init   (a0 : Nat) (h : xH) : Option (Unit × xH) :=
  if kc h a0 = 3 then
  lt (sI h a0 0 (0 : Int32)) (fun g2 =>
  lt (sI g2 a0 1 (0 : Int32)) (fun g5 =>
  lt (sI g5 a0 2 (0 : Int32)) (fun g8 =>
  lt (hnx g8) (fun q11 => lt (hnew g8 2 0) (fun g10 =>
  bd (fX2_init q11 g10) (fun _ g14 =>
  lt (sR g14 a0 3 q11) (fun g17 =>
  lt (hnx g17) (fun q20 => lt (hnew g17 2 0) (fun g19 =>
  bd (fX2_init q20 g19) (fun _ g23 =>
  lt (sR g23 a0 4 q20) (fun g26 =>
  some ((), g26))))))))))))
  else none
theorem pX3_init_e    (a0 : Nat) (h : xH) : S emV kX3_init h 0 [(0, .ref a0)] [] h (fX3_init  a0 h) := by
  unfold fX3_init
  refine s_aload_n (pc := 0) (k0 := 0) (i := 0) rfl 0 rfl (by decide +kernel) ?_
  refine S_gd (fun c1 => ?_)
  refine s_objInit (pc := 1) (index := 1) (k2r c1 (by decide)) ml_X3_1 oi_1 oi_2 (by decide) (by decide +kernel) ?_
  refine s_aload_n (pc := 4) (k0 := 0) (i := 0) rfl 0 rfl (by decide +kernel) ?_
  refine s_iconst (pc := 5) (n := 0) (v := (0 : Int32)) (by decide) (by decide +kernel) ?_
  refine s_putZ (pc := 6) (k := 0) (by decide) c1 ft_X3_7 (fw_3_0 _ _) rfl rfl (by decide +kernel) ?_
  refine s_nmH (o := h) rfl (fun g2 e3 => ?_)
  refine s_aload_n (pc := 9) (k0 := 0) (i := 0) rfl 0 rfl (by decide +kernel) ?_
  refine s_iconst (pc := 10) (n := 0) (v := (0 : Int32)) (by decide) (by decide +kernel) ?_
  have c4 := kp e3 c1 (by decide)
  refine s_putZ (pc := 11) (k := 1) (by decide) c4 ft_X3_13 (fw_3_1 _ _) rfl rfl (by decide +kernel) ?_
  refine s_nmH (o := g2) rfl (fun g5 e6 => ?_)
  refine s_aload_n (pc := 14) (k0 := 0) (i := 0) rfl 0 rfl (by decide +kernel) ?_
  refine s_iconst (pc := 15) (n := 0) (v := (0 : Int32)) (by decide) (by decide +kernel) ?_
  have c7 := kp e6 c4 (by decide)
  refine s_putZ (pc := 16) (k := 2) (by decide) c7 ft_X3_16 (fw_3_2 _ _) rfl rfl (by decide +kernel) ?_
  refine s_nmH (o := g5) rfl (fun g8 e9 => ?_)
  refine s_aload_n (pc := 19) (k0 := 0) (i := 0) rfl 0 rfl (by decide +kernel) ?_
  refine s_new (pc := 20) nt_X3_19 dv_2 (by decide +kernel) ?_
  refine s_nmN (fun q11 g10 c13 e12 => ?_)
  refine s_dup_a (pc := 23) (by decide +kernel) ?_
  refine s_cIN (pc := 24) [] (tX2_init q11 g10) (k2r c13 (by decide)) rfl cw_X3_21 rfl (mwi_X2_init) rfl ⟨⟨Nat.le_of_ble_eq_true rfl, Nat.le_of_ble_eq_true rfl⟩, Nat.le_of_ble_eq_true rfl⟩ rfl (by decide +kernel) (fun _ g14 e15 => ?_)
  have c16 := kp (Le.tr e9 (Le.tr e12 e15)) c7 (by decide)
  refine s_putR (pc := 27) (k := 3) c16 ft_X3_22 fwF_3_3 rfl rfl (by decide +kernel) ?_
  refine s_nmH (o := g14) rfl (fun g17 e18 => ?_)
  refine s_aload_n (pc := 30) (k0 := 0) (i := 0) rfl 0 rfl (by decide +kernel) ?_
  refine s_new (pc := 31) nt_X3_19 dv_2 (by decide +kernel) ?_
  refine s_nmN (fun q20 g19 c22 e21 => ?_)
  refine s_dup_a (pc := 34) (by decide +kernel) ?_
  refine s_cIN (pc := 35) [] (tX2_init q20 g19) (k2r c22 (by decide)) rfl cw_X3_21 rfl (mwi_X2_init) rfl ⟨⟨Nat.le_of_ble_eq_true rfl, Nat.le_of_ble_eq_true rfl⟩, Nat.le_of_ble_eq_true rfl⟩ rfl (by decide +kernel) (fun _ g23 e24 => ?_)
  have c25 := kp (Le.tr e18 (Le.tr e21 e24)) c16 (by decide)
  refine s_putR (pc := 38) (k := 4) c25 ft_X3_26 fwF_3_4 rfl rfl (by decide +kernel) ?_
  refine s_nmH (o := g23) rfl (fun g26 e27 => ?_)
  exact s_vret (pc := 41) rfl (by decide +kernel)
theorem tX3_init (a0 : Nat) (h : xH) : Ct yX3_init kX3_init emV [.ref a0] h (fX3_init a0 h) := Ct_of (by decide +kernel) rfl rfl rfl (Nat.le_of_ble_eq_true rfl) rfl (pX3_init_e a0 h)
def fX5_appendWord_b3 (r3 : Nat → Int32 → Int32 → xH → Option (Unit × xH))  (a0 : Nat) (a1 : Int32) (a2 : Int32) (h : xH) : Option (Unit × xH) :=
  if a2 < 0 then (
  some ((), h))
  else (
  if kc h a0 = 5 then
  if (400 : Int32) ≤ (hI h a0 0) then (
  some ((), h))
  else (
  if kc h (hR h a0 2) = 11 then
  if ix (hI h a0 0) (kl h (hR h a0 2)) then
  lt (sI h (hR h a0 2) (hI h a0 0).toNatClampNeg (((a1.toUInt32 >>> (a2.toUInt32 &&& Int32.toUInt32 31)).toInt32).toInt8.toInt32).toInt8.toInt32) (fun g4 =>
  lt (sI g4 a0 0 ((hI g4 a0 0) + (1 : Int32))) (fun g7 =>
  lt (a2 + (-8 : Int32)) (fun v9 =>
  r3 a0 a1 v9 g7)))
  else none
  else none)
  else none)
def fX5_appendWord_l3  : Nat → Nat → Int32 → Int32 → xH → Option (Unit × xH)
  | 0 => fun _ _ _ _ => none
  | k + 1 => fX5_appendWord_b3 (fX5_appendWord_l3  k)
def fX5_appendWord   (a0 : Nat) (a1 : Int32) (h : xH) : Option (Unit × xH) :=
  lt (24 : Int32) (fun v1 =>
  fX5_appendWord_l3 FU a0 a1 v1 h)
theorem pX5_appendWord_b3 {h0 : xH} {r3 : Nat → Int32 → Int32 → xH → Option (Unit × xH)} (hr3 : ∀  (a0 : Nat) (a1 : Int32) (a2 : Int32) (g : xH), S emV kX5_appendWord h0 3 [(0, .ref a0), (1, .int a1), (2, .int a2)] [] g (r3  a0 a1 a2 g))  (a0 : Nat) (a1 : Int32) (a2 : Int32) (h : xH) : S emV kX5_appendWord h0 3 [(0, .ref a0), (1, .int a1), (2, .int a2)] [] h (fX5_appendWord_b3 r3 a0 a1 a2 h) := by
  unfold fX5_appendWord_b3
  refine s_iload_n (pc := 3) (k0 := 2) (i := 2) rfl 2 rfl (by decide +kernel) ?_
  refine s_if_lt (pc := 4) (off := 42) 46 (by decide +kernel) (by decide) (fun _ => ?_) (fun _ => ?_)
  · exact s_vret (pc := 46) rfl (by decide +kernel)
  · refine s_aload_n (pc := 7) (k0 := 0) (i := 0) rfl 0 rfl (by decide +kernel) ?_
    refine S_gd (fun c1 => ?_)
    refine s_getI (pc := 8) (k := 0) c1 ft_X5_9 rfl (by decide +kernel) ?_
    refine s_sipush (pc := 11) (n := 400) (v := (400 : Int32)) (by decide) (by decide +kernel) ?_
    refine s_icmp_ge (pc := 14) (off := 32) 46 (by decide +kernel) (by decide) (fun _ => ?_) (fun _ => ?_)
    · exact s_vret (pc := 46) rfl (by decide +kernel)
    · refine s_aload_n (pc := 17) (k0 := 0) (i := 0) rfl 0 rfl (by decide +kernel) ?_
      refine s_getR (pc := 18) (k := 2) c1 ft_X5_18 rfl (by decide +kernel) ?_
      refine s_aload_n (pc := 21) (k0 := 0) (i := 0) rfl 0 rfl (by decide +kernel) ?_
      refine s_getI (pc := 22) (k := 0) c1 ft_X5_9 rfl (by decide +kernel) ?_
      refine s_iload_n (pc := 25) (k0 := 1) (i := 1) rfl 1 rfl (by decide +kernel) ?_
      refine s_iload_n (pc := 26) (k0 := 2) (i := 2) rfl 2 rfl (by decide +kernel) ?_
      refine s_iushr (pc := 27) (by decide +kernel) ?_
      refine s_i2b (pc := 28) (by decide +kernel) ?_
      refine S_gd (fun c2 => ?_)
      refine S_gd (fun c3 => ?_)
      refine s_bast (pc := 29) c2 c3 (by decide +kernel) ?_
      refine s_nmH (o := h) rfl (fun g4 e5 => ?_)
      refine s_aload_n (pc := 30) (k0 := 0) (i := 0) rfl 0 rfl (by decide +kernel) ?_
      refine s_dup_a (pc := 31) (by decide +kernel) ?_
      have c6 := kp e5 c1 (by decide)
      refine s_getI (pc := 32) (k := 0) c6 ft_X5_9 rfl (by decide +kernel) ?_
      refine s_iconst (pc := 35) (n := 1) (v := (1 : Int32)) (by decide) (by decide +kernel) ?_
      refine s_iadd (pc := 36) (by decide +kernel) ?_
      refine s_putI (pc := 37) (k := 0) c6 ft_X5_9 (fw_5_0 _ _) rfl rfl (by decide +kernel) ?_
      refine s_nmH (o := g4) rfl (fun g7 e8 => ?_)
      refine s_iinc (pc := 40) (L' := [(2, .int (a2 + (-8 : Int32))), (0, .ref a0), (1, .int a1)]) (i := 2) (n := -8) 2 rfl rfl (by decide) rfl (by decide +kernel) ?_
      refine s_nmI0 (e := a2 + (-8 : Int32)) (L := fun v9 => [(2, .int v9), (0, .ref a0), (1, .int a1)]) (fun v9 => ?_)
      refine s_goto (pc := 43) (off := -40) 3 (by decide +kernel) (by decide) ?_
      refine S_sub [1, 2, 0] rfl ?_
      exact hr3 a0 a1 v9 g7
theorem pX5_appendWord_l3 {h0 : xH}   : ∀ (k : Nat)  (a0 : Nat) (a1 : Int32) (a2 : Int32) (h : xH), S emV kX5_appendWord h0 3 [(0, .ref a0), (1, .int a1), (2, .int a2)] [] h (fX5_appendWord_l3  k  a0 a1 a2 h) := by
  intro k
  induction k with
  | zero => intros; exact S_none
  | succ k ih => intro  a0 a1 a2 h; exact pX5_appendWord_b3 ih  a0 a1 a2 h
theorem pX5_appendWord_e    (a0 : Nat) (a1 : Int32) (h : xH) : S emV kX5_appendWord h 0 [(0, .ref a0), (1, .int a1)] [] h (fX5_appendWord  a0 a1 h) := by
  unfold fX5_appendWord
  refine s_bipush (pc := 0) (n := 24) (v := (24 : Int32)) (by decide) (by decide +kernel) ?_
  refine s_nmI (fun v1 => ?_)
  refine s_istore_n (pc := 2) (L' := [(2, .int v1), (0, .ref a0), (1, .int a1)]) (k0 := 2) (i := 2) rfl (by decide) rfl (by decide +kernel) ?_
  refine S_sub [1, 2, 0] rfl ?_
  exact pX5_appendWord_l3 FU a0 a1 v1 h
theorem tX5_appendWord (a0 : Nat) (a1 : Int32) (h : xH) : Ct yX5_appendWord kX5_appendWord emV [.ref a0, .int a1] h (fX5_appendWord a0 a1 h) := Ct_of (by decide +kernel) rfl rfl rfl (Nat.le_of_ble_eq_true rfl) rfl (pX5_appendWord_e a0 a1 h)
def fX5_skipBlanks_b0 (r0 : Nat → xH → Option (Unit × xH))  (a0 : Nat) (h : xH) : Option (Unit × xH) :=
  if kc h a0 = 5 then
  if (hI h a0 0) ≤ (hI h a0 3) then (
  some ((), h))
  else (
  if kc h (hR h a0 2) = 11 then
  if ix (hI h a0 3) (kl h (hR h a0 2)) then
  if (hI h (hR h a0 2) (hI h a0 3).toNatClampNeg) = (32 : Int32) then (
  lt (sI h a0 3 ((hI h a0 3) + (1 : Int32))) (fun g4 =>
  r0 a0 g4))
  else (
  some ((), h))
  else none
  else none)
  else none
def fX5_skipBlanks_l0  : Nat → Nat → xH → Option (Unit × xH)
  | 0 => fun _ _ => none
  | k + 1 => fX5_skipBlanks_b0 (fX5_skipBlanks_l0  k)
def fX5_skipBlanks (a0 : Nat) (h : xH) : Option (Unit × xH) := fX5_skipBlanks_l0 FU a0 h
theorem pX5_skipBlanks_b0 {h0 : xH} {r0 : Nat → xH → Option (Unit × xH)} (hr0 : ∀  (a0 : Nat) (g : xH), S emV kX5_skipBlanks h0 0 [(0, .ref a0)] [] g (r0  a0 g))  (a0 : Nat) (h : xH) : S emV kX5_skipBlanks h0 0 [(0, .ref a0)] [] h (fX5_skipBlanks_b0 r0 a0 h) := by
  unfold fX5_skipBlanks_b0
  refine s_aload_n (pc := 0) (k0 := 0) (i := 0) rfl 0 rfl (by decide +kernel) ?_
  refine S_gd (fun c1 => ?_)
  refine s_getI (pc := 1) (k := 3) c1 ft_X5_22 rfl (by decide +kernel) ?_
  refine s_aload_n (pc := 4) (k0 := 0) (i := 0) rfl 0 rfl (by decide +kernel) ?_
  refine s_getI (pc := 5) (k := 0) c1 ft_X5_9 rfl (by decide +kernel) ?_
  refine s_icmp_ge (pc := 8) (off := 30) 38 (by decide +kernel) (by decide) (fun _ => ?_) (fun _ => ?_)
  · exact s_vret (pc := 38) rfl (by decide +kernel)
  · refine s_aload_n (pc := 11) (k0 := 0) (i := 0) rfl 0 rfl (by decide +kernel) ?_
    refine s_getR (pc := 12) (k := 2) c1 ft_X5_18 rfl (by decide +kernel) ?_
    refine s_aload_n (pc := 15) (k0 := 0) (i := 0) rfl 0 rfl (by decide +kernel) ?_
    refine s_getI (pc := 16) (k := 3) c1 ft_X5_22 rfl (by decide +kernel) ?_
    refine S_gd (fun c2 => ?_)
    refine S_gd (fun c3 => ?_)
    refine s_bald (pc := 19) c2 c3 (by decide +kernel) ?_
    refine s_bipush (pc := 20) (n := 32) (v := (32 : Int32)) (by decide) (by decide +kernel) ?_
    refine s_icmp_ne (pc := 22) (off := 16) 38 (by decide +kernel) (by decide) (fun _ => ?_) (fun _ => ?_)
    · refine s_aload_n (pc := 25) (k0 := 0) (i := 0) rfl 0 rfl (by decide +kernel) ?_
      refine s_dup_a (pc := 26) (by decide +kernel) ?_
      refine s_getI (pc := 27) (k := 3) c1 ft_X5_22 rfl (by decide +kernel) ?_
      refine s_iconst (pc := 30) (n := 1) (v := (1 : Int32)) (by decide) (by decide +kernel) ?_
      refine s_iadd (pc := 31) (by decide +kernel) ?_
      refine s_putI (pc := 32) (k := 3) c1 ft_X5_22 (fw_5_3 _ _) rfl rfl (by decide +kernel) ?_
      refine s_nmH (o := h) rfl (fun g4 e5 => ?_)
      refine s_goto (pc := 35) (off := -35) 0 (by decide +kernel) (by decide) ?_
      exact hr0 a0 g4
    · exact s_vret (pc := 38) rfl (by decide +kernel)
theorem pX5_skipBlanks_l0 {h0 : xH}   : ∀ (k : Nat)  (a0 : Nat) (h : xH), S emV kX5_skipBlanks h0 0 [(0, .ref a0)] [] h (fX5_skipBlanks_l0  k  a0 h) := by
  intro k
  induction k with
  | zero => intros; exact S_none
  | succ k ih => intro  a0 h; exact pX5_skipBlanks_b0 ih  a0 h
theorem tX5_skipBlanks (a0 : Nat) (h : xH) : Ct yX5_skipBlanks kX5_skipBlanks emV [.ref a0] h (fX5_skipBlanks a0 h) := Ct_of (by decide +kernel) rfl rfl rfl (Nat.le_of_ble_eq_true rfl) rfl (S_sub [0] rfl (pX5_skipBlanks_l0 FU a0 h))
def fX5_fail   (a0 : Nat) (a1 : Int32) (h : xH) : Option (Int32 × xH) :=
  if kc h a0 = 5 then
  lt (sI h a0 1 a1) (fun g2 =>
  some ((0 : Int32), g2))
  else none
theorem pX5_fail_e    (a0 : Nat) (a1 : Int32) (h : xH) : S emI kX5_fail h 0 [(0, .ref a0), (1, .int a1)] [] h (fX5_fail  a0 a1 h) := by
  unfold fX5_fail
  refine s_aload_n (pc := 0) (k0 := 0) (i := 0) rfl 0 rfl (by decide +kernel) ?_
  refine s_iload_n (pc := 1) (k0 := 1) (i := 1) rfl 1 rfl (by decide +kernel) ?_
  refine S_gd (fun c1 => ?_)
  refine s_putI (pc := 2) (k := 1) c1 ft_X5_15 (fw_5_1 _ _) rfl rfl (by decide +kernel) ?_
  refine s_nmH (o := h) rfl (fun g2 e3 => ?_)
  refine s_iconst (pc := 5) (n := 0) (v := (0 : Int32)) (by decide) (by decide +kernel) ?_
  exact s_zret (pc := 6) (by decide) rfl (by decide +kernel)
theorem tX5_fail (a0 : Nat) (a1 : Int32) (h : xH) : Ct yX5_fail kX5_fail emI [.ref a0, .int a1] h (fX5_fail a0 a1 h) := Ct_of (by decide +kernel) rfl rfl rfl (Nat.le_of_ble_eq_true rfl) rfl (pX5_fail_e a0 a1 h)
def fX5_takeSign   (a0 : Nat) (a1 : Int32) (h : xH) : Option (Int32 × xH) :=
  if kc h a0 = 5 then
  if (hI h a0 0) ≤ (hI h a0 3) then (
  some ((0 : Int32), h))
  else (
  if kc h (hR h a0 2) = 11 then
  if ix (hI h a0 3) (kl h (hR h a0 2)) then
  if (hI h (hR h a0 2) (hI h a0 3).toNatClampNeg) = a1 then (
  lt (sI h a0 3 ((hI h a0 3) + (1 : Int32))) (fun g4 =>
  some ((1 : Int32), g4)))
  else (
  some ((0 : Int32), h))
  else none
  else none)
  else none
theorem pX5_takeSign_e    (a0 : Nat) (a1 : Int32) (h : xH) : S emI kX5_takeSign h 0 [(0, .ref a0), (1, .int a1)] [] h (fX5_takeSign  a0 a1 h) := by
  unfold fX5_takeSign
  refine s_aload_n (pc := 0) (k0 := 0) (i := 0) rfl 0 rfl (by decide +kernel) ?_
  refine S_gd (fun c1 => ?_)
  refine s_getI (pc := 1) (k := 3) c1 ft_X5_22 rfl (by decide +kernel) ?_
  refine s_aload_n (pc := 4) (k0 := 0) (i := 0) rfl 0 rfl (by decide +kernel) ?_
  refine s_getI (pc := 5) (k := 0) c1 ft_X5_9 rfl (by decide +kernel) ?_
  refine s_icmp_ge (pc := 8) (off := 28) 36 (by decide +kernel) (by decide) (fun _ => ?_) (fun _ => ?_)
  · refine s_iconst (pc := 36) (n := 0) (v := (0 : Int32)) (by decide) (by decide +kernel) ?_
    exact s_zret (pc := 37) (by decide) rfl (by decide +kernel)
  · refine s_aload_n (pc := 11) (k0 := 0) (i := 0) rfl 0 rfl (by decide +kernel) ?_
    refine s_getR (pc := 12) (k := 2) c1 ft_X5_18 rfl (by decide +kernel) ?_
    refine s_aload_n (pc := 15) (k0 := 0) (i := 0) rfl 0 rfl (by decide +kernel) ?_
    refine s_getI (pc := 16) (k := 3) c1 ft_X5_22 rfl (by decide +kernel) ?_
    refine S_gd (fun c2 => ?_)
    refine S_gd (fun c3 => ?_)
    refine s_bald (pc := 19) c2 c3 (by decide +kernel) ?_
    refine s_iload_n (pc := 20) (k0 := 1) (i := 1) rfl 1 rfl (by decide +kernel) ?_
    refine s_icmp_ne (pc := 21) (off := 15) 36 (by decide +kernel) (by decide) (fun _ => ?_) (fun _ => ?_)
    · refine s_aload_n (pc := 24) (k0 := 0) (i := 0) rfl 0 rfl (by decide +kernel) ?_
      refine s_dup_a (pc := 25) (by decide +kernel) ?_
      refine s_getI (pc := 26) (k := 3) c1 ft_X5_22 rfl (by decide +kernel) ?_
      refine s_iconst (pc := 29) (n := 1) (v := (1 : Int32)) (by decide) (by decide +kernel) ?_
      refine s_iadd (pc := 30) (by decide +kernel) ?_
      refine s_putI (pc := 31) (k := 3) c1 ft_X5_22 (fw_5_3 _ _) rfl rfl (by decide +kernel) ?_
      refine s_nmH (o := h) rfl (fun g4 e5 => ?_)
      refine s_iconst (pc := 34) (n := 1) (v := (1 : Int32)) (by decide) (by decide +kernel) ?_
      exact s_zret (pc := 35) (by decide) rfl (by decide +kernel)
    · refine s_iconst (pc := 36) (n := 0) (v := (0 : Int32)) (by decide) (by decide +kernel) ?_
      exact s_zret (pc := 37) (by decide) rfl (by decide +kernel)
theorem tX5_takeSign (a0 : Nat) (a1 : Int32) (h : xH) : Ct yX5_takeSign kX5_takeSign emI [.ref a0, .int a1] h (fX5_takeSign a0 a1 h) := Ct_of (by decide +kernel) rfl rfl rfl (Nat.le_of_ble_eq_true rfl) rfl (pX5_takeSign_e a0 a1 h)
def fX5_isDigit   (a0 : Int32) (h : xH) : Option (Int32 × xH) :=
  if a0 < (48 : Int32) then (
  some ((0 : Int32), h))
  else (
  if (57 : Int32) < a0 then (
  some ((0 : Int32), h))
  else (
  some ((1 : Int32), h)))
theorem pX5_isDigit_e    (a0 : Int32) (h : xH) : S emI kX5_isDigit h 0 [(0, .int a0)] [] h (fX5_isDigit  a0 h) := by
  unfold fX5_isDigit
  refine s_iload_n (pc := 0) (k0 := 0) (i := 0) rfl 0 rfl (by decide +kernel) ?_
  refine s_bipush (pc := 1) (n := 48) (v := (48 : Int32)) (by decide) (by decide +kernel) ?_
  refine s_icmp_lt (pc := 3) (off := 13) 16 (by decide +kernel) (by decide) (fun _ => ?_) (fun _ => ?_)
  · refine s_iconst (pc := 16) (n := 0) (v := (0 : Int32)) (by decide) (by decide +kernel) ?_
    exact s_zret (pc := 17) (by decide) rfl (by decide +kernel)
  · refine s_iload_n (pc := 6) (k0 := 0) (i := 0) rfl 0 rfl (by decide +kernel) ?_
    refine s_bipush (pc := 7) (n := 57) (v := (57 : Int32)) (by decide) (by decide +kernel) ?_
    refine s_icmp_gt (pc := 9) (off := 7) 16 (by decide +kernel) (by decide) (fun _ => ?_) (fun _ => ?_)
    · refine s_iconst (pc := 16) (n := 0) (v := (0 : Int32)) (by decide) (by decide +kernel) ?_
      exact s_zret (pc := 17) (by decide) rfl (by decide +kernel)
    · refine s_iconst (pc := 12) (n := 1) (v := (1 : Int32)) (by decide) (by decide +kernel) ?_
      refine s_goto (pc := 13) (off := 4) 17 (by decide +kernel) (by decide) ?_
      exact s_zret (pc := 17) (by decide) rfl (by decide +kernel)
theorem tX5_isDigit (a0 : Int32) (h : xH) : Ct yX5_isDigit kX5_isDigit emI [.int a0] h (fX5_isDigit a0 h) := Ct_of (by decide +kernel) rfl rfl rfl (Nat.le_of_ble_eq_true rfl) rfl (pX5_isDigit_e a0 h)
def fX5_readNumber_b97   (a0 : Nat) (a3 : Int32) (h : xH) : Option (Int32 × xH) :=
  if kc h a0 = 5 then
  bd (fX5_fail a0 a3 h) (fun w4 g2 =>
  if w4 = 0 ∨ w4 = 1 then
  some (w4, g2)
  else none)
  else none
def fX5_readNumber_b77   (a0 : Nat) (a1 : Int32) (a2 : Int32) (a3 : Int32) (a4 : Int32) (h : xH) : Option (Int32 × xH) :=
  if kc h a0 = 5 then
  if (hI h a0 3) = a3 then (
  fX5_readNumber_b97 a0 a3 h)
  else (
  if a4 < a1 then (
  fX5_readNumber_b97 a0 a3 h)
  else (
  if a4 ≤ a2 then (
  lt (sI h a0 4 a4) (fun g2 =>
  some ((1 : Int32), g2)))
  else (
  fX5_readNumber_b97 a0 a3 h)))
  else none
def fX5_readNumber_b12 (r12 : Nat → Int32 → Int32 → Int32 → Int32 → xH → Option (Int32 × xH))  (a0 : Nat) (a1 : Int32) (a2 : Int32) (a3 : Int32) (a4 : Int32) (h : xH) : Option (Int32 × xH) :=
  if kc h a0 = 5 then
  if (hI h a0 0) ≤ (hI h a0 3) then (
  fX5_readNumber_b77 a0 a1 a2 a3 a4 h)
  else (
  if kc h (hR h a0 2) = 11 then
  if ix (hI h a0 3) (kl h (hR h a0 2)) then
  bd (fX5_isDigit (hI h (hR h a0 2) (hI h a0 3).toNatClampNeg) h) (fun w6 g4 =>
  if w6 = 0 then (
  fX5_readNumber_b77 a0 a1 a2 a3 a4 g4)
  else (
  if kc g4 (hR g4 a0 2) = 11 then
  if ix (hI g4 a0 3) (kl g4 (hR g4 a0 2)) then
  bd (fJ9_min_7cf53 ((a4 * (10 : Int32)) + ((hI g4 (hR g4 a0 2) (hI g4 a0 3).toNatClampNeg) - (48 : Int32))) (a2 + (1 : Int32)) g4) (fun w12 g10 =>
  lt (sI g10 a0 3 ((hI g10 a0 3) + (1 : Int32))) (fun g14 =>
  r12 a0 a1 a2 a3 w12 g14))
  else none
  else none))
  else none
  else none)
  else none
def fX5_readNumber_l12  : Nat → Nat → Int32 → Int32 → Int32 → Int32 → xH → Option (Int32 × xH)
  | 0 => fun _ _ _ _ _ _ => none
  | k + 1 => fX5_readNumber_b12 (fX5_readNumber_l12  k)
def fX5_readNumber   (a0 : Nat) (a1 : Int32) (a2 : Int32) (h : xH) : Option (Int32 × xH) :=
  if kc h a0 = 5 then
  bd (fX5_skipBlanks a0 h) (fun _ g2 =>
  lt (hI g2 a0 3) (fun v5 =>
  lt (0 : Int32) (fun v6 =>
  fX5_readNumber_l12 FU a0 a1 a2 v5 v6 g2)))
  else none
theorem pX5_readNumber_b97 {h0 : xH}    (a0 : Nat) (a3 : Int32) (h : xH) : S emI kX5_readNumber h0 97 [(0, .ref a0), (3, .int a3)] [] h (fX5_readNumber_b97  a0 a3 h) := by
  unfold fX5_readNumber_b97
  refine s_aload_n (pc := 97) (k0 := 0) (i := 0) rfl 0 rfl (by decide +kernel) ?_
  refine s_iload_n (pc := 98) (k0 := 3) (i := 3) rfl 1 rfl (by decide +kernel) ?_
  refine S_gd (fun c1 => ?_)
  refine s_cVi (pc := 99) [.int a3] (tX5_fail a0 a3 h) c1 cw_X5_61 rfl ⟨⟨Nat.le_of_ble_eq_true rfl, Nat.le_of_ble_eq_true rfl⟩, Nat.le_of_ble_eq_true rfl⟩ rfl (by decide +kernel) (fun w4 g2 e3 => ?_)
  refine S_gd (fun c5 => ?_)
  exact s_zret (pc := 102) c5 rfl (by decide +kernel)
theorem pX5_readNumber_b77 {h0 : xH}    (a0 : Nat) (a1 : Int32) (a2 : Int32) (a3 : Int32) (a4 : Int32) (h : xH) : S emI kX5_readNumber h0 77 [(0, .ref a0), (1, .int a1), (2, .int a2), (3, .int a3), (4, .int a4)] [] h (fX5_readNumber_b77  a0 a1 a2 a3 a4 h) := by
  unfold fX5_readNumber_b77
  refine s_aload_n (pc := 77) (k0 := 0) (i := 0) rfl 0 rfl (by decide +kernel) ?_
  refine S_gd (fun c1 => ?_)
  refine s_getI (pc := 78) (k := 3) c1 ft_X5_22 rfl (by decide +kernel) ?_
  refine s_iload_n (pc := 81) (k0 := 3) (i := 3) rfl 3 rfl (by decide +kernel) ?_
  refine s_icmp_eq (pc := 82) (off := 15) 97 (by decide +kernel) (by decide) (fun _ => ?_) (fun _ => ?_)
  · refine S_sub [0, 3] rfl ?_
    exact pX5_readNumber_b97 a0 a3 h
  · refine s_iload (pc := 85) (i := 4) 4 rfl (by decide +kernel) ?_
    refine s_iload_n (pc := 87) (k0 := 1) (i := 1) rfl 1 rfl (by decide +kernel) ?_
    refine s_icmp_lt (pc := 88) (off := 9) 97 (by decide +kernel) (by decide) (fun _ => ?_) (fun _ => ?_)
    · refine S_sub [0, 3] rfl ?_
      exact pX5_readNumber_b97 a0 a3 h
    · refine s_iload (pc := 91) (i := 4) 4 rfl (by decide +kernel) ?_
      refine s_iload_n (pc := 93) (k0 := 2) (i := 2) rfl 2 rfl (by decide +kernel) ?_
      refine s_icmp_le (pc := 94) (off := 9) 103 (by decide +kernel) (by decide) (fun _ => ?_) (fun _ => ?_)
      · refine s_aload_n (pc := 103) (k0 := 0) (i := 0) rfl 0 rfl (by decide +kernel) ?_
        refine s_iload (pc := 104) (i := 4) 4 rfl (by decide +kernel) ?_
        refine s_putI (pc := 106) (k := 4) c1 ft_X5_25 (fw_5_4 _ _) rfl rfl (by decide +kernel) ?_
        refine s_nmH (o := h) rfl (fun g2 e3 => ?_)
        refine s_iconst (pc := 109) (n := 1) (v := (1 : Int32)) (by decide) (by decide +kernel) ?_
        exact s_zret (pc := 110) (by decide) rfl (by decide +kernel)
      · refine S_sub [0, 3] rfl ?_
        exact pX5_readNumber_b97 a0 a3 h
theorem pX5_readNumber_b12 {h0 : xH} {r12 : Nat → Int32 → Int32 → Int32 → Int32 → xH → Option (Int32 × xH)} (hr12 : ∀  (a0 : Nat) (a1 : Int32) (a2 : Int32) (a3 : Int32) (a4 : Int32) (g : xH), S emI kX5_readNumber h0 12 [(0, .ref a0), (1, .int a1), (2, .int a2), (3, .int a3), (4, .int a4)] [] g (r12  a0 a1 a2 a3 a4 g))  (a0 : Nat) (a1 : Int32) (a2 : Int32) (a3 : Int32) (a4 : Int32) (h : xH) : S emI kX5_readNumber h0 12 [(0, .ref a0), (1, .int a1), (2, .int a2), (3, .int a3), (4, .int a4)] [] h (fX5_readNumber_b12 r12 a0 a1 a2 a3 a4 h) := by
  unfold fX5_readNumber_b12
  refine s_aload_n (pc := 12) (k0 := 0) (i := 0) rfl 0 rfl (by decide +kernel) ?_
  refine S_gd (fun c1 => ?_)
  refine s_getI (pc := 13) (k := 3) c1 ft_X5_22 rfl (by decide +kernel) ?_
  refine s_aload_n (pc := 16) (k0 := 0) (i := 0) rfl 0 rfl (by decide +kernel) ?_
  refine s_getI (pc := 17) (k := 0) c1 ft_X5_9 rfl (by decide +kernel) ?_
  refine s_icmp_ge (pc := 20) (off := 57) 77 (by decide +kernel) (by decide) (fun _ => ?_) (fun _ => ?_)
  · exact pX5_readNumber_b77 a0 a1 a2 a3 a4 h
  · refine s_aload_n (pc := 23) (k0 := 0) (i := 0) rfl 0 rfl (by decide +kernel) ?_
    refine s_getR (pc := 24) (k := 2) c1 ft_X5_18 rfl (by decide +kernel) ?_
    refine s_aload_n (pc := 27) (k0 := 0) (i := 0) rfl 0 rfl (by decide +kernel) ?_
    refine s_getI (pc := 28) (k := 3) c1 ft_X5_22 rfl (by decide +kernel) ?_
    refine S_gd (fun c2 => ?_)
    refine S_gd (fun c3 => ?_)
    refine s_bald (pc := 31) c2 c3 (by decide +kernel) ?_
    refine s_cSi (pc := 32) [.int (hI h (hR h a0 2) (hI h a0 3).toNatClampNeg)] (tX5_isDigit (hI h (hR h a0 2) (hI h a0 3).toNatClampNeg) h) cw_X5_83 rfl ⟨⟨Nat.le_of_ble_eq_true rfl, Nat.le_of_ble_eq_true rfl⟩, Nat.le_of_ble_eq_true rfl⟩ rfl (by decide +kernel) (fun w6 g4 e5 => ?_)
    refine s_if_eq (pc := 35) (off := 42) 77 (by decide +kernel) (by decide) (fun _ => ?_) (fun _ => ?_)
    · exact pX5_readNumber_b77 a0 a1 a2 a3 a4 g4
    · refine s_iload (pc := 38) (i := 4) 4 rfl (by decide +kernel) ?_
      refine s_bipush (pc := 40) (n := 10) (v := (10 : Int32)) (by decide) (by decide +kernel) ?_
      refine s_imul (pc := 42) (by decide +kernel) ?_
      refine s_aload_n (pc := 43) (k0 := 0) (i := 0) rfl 0 rfl (by decide +kernel) ?_
      have c7 := kp e5 c1 (by decide)
      refine s_getR (pc := 44) (k := 2) c7 ft_X5_18 rfl (by decide +kernel) ?_
      refine s_aload_n (pc := 47) (k0 := 0) (i := 0) rfl 0 rfl (by decide +kernel) ?_
      refine s_getI (pc := 48) (k := 3) c7 ft_X5_22 rfl (by decide +kernel) ?_
      refine S_gd (fun c8 => ?_)
      refine S_gd (fun c9 => ?_)
      refine s_bald (pc := 51) c8 c9 (by decide +kernel) ?_
      refine s_bipush (pc := 52) (n := 48) (v := (48 : Int32)) (by decide) (by decide +kernel) ?_
      refine s_isub (pc := 54) (by decide +kernel) ?_
      refine s_iadd (pc := 55) (by decide +kernel) ?_
      refine s_iload_n (pc := 56) (k0 := 2) (i := 2) rfl 2 rfl (by decide +kernel) ?_
      refine s_iconst (pc := 57) (n := 1) (v := (1 : Int32)) (by decide) (by decide +kernel) ?_
      refine s_iadd (pc := 58) (by decide +kernel) ?_
      refine s_cSi (pc := 59) [.int ((a4 * (10 : Int32)) + ((hI g4 (hR g4 a0 2) (hI g4 a0 3).toNatClampNeg) - (48 : Int32))), .int (a2 + (1 : Int32))] (tJ9_min_7cf53 ((a4 * (10 : Int32)) + ((hI g4 (hR g4 a0 2) (hI g4 a0 3).toNatClampNeg) - (48 : Int32))) (a2 + (1 : Int32)) g4) cw_X5_86 rfl ⟨⟨Nat.le_of_ble_eq_true rfl, Nat.le_of_ble_eq_true rfl⟩, Nat.le_of_ble_eq_true rfl⟩ rfl (by decide +kernel) (fun w12 g10 e11 => ?_)
      refine s_istore (pc := 62) (L' := [(4, .int w12), (0, .ref a0), (1, .int a1), (2, .int a2), (3, .int a3)]) (i := 4) (by decide) rfl (by decide +kernel) ?_
      refine s_aload_n (pc := 64) (k0 := 0) (i := 0) rfl 1 rfl (by decide +kernel) ?_
      refine s_dup_a (pc := 65) (by decide +kernel) ?_
      have c13 := kp e11 c7 (by decide)
      refine s_getI (pc := 66) (k := 3) c13 ft_X5_22 rfl (by decide +kernel) ?_
      refine s_iconst (pc := 69) (n := 1) (v := (1 : Int32)) (by decide) (by decide +kernel) ?_
      refine s_iadd (pc := 70) (by decide +kernel) ?_
      refine s_putI (pc := 71) (k := 3) c13 ft_X5_22 (fw_5_3 _ _) rfl rfl (by decide +kernel) ?_
      refine s_nmH (o := g10) rfl (fun g14 e15 => ?_)
      refine s_goto (pc := 74) (off := -62) 12 (by decide +kernel) (by decide) ?_
      refine S_sub [1, 2, 3, 4, 0] rfl ?_
      exact hr12 a0 a1 a2 a3 w12 g14
theorem pX5_readNumber_l12 {h0 : xH}   : ∀ (k : Nat)  (a0 : Nat) (a1 : Int32) (a2 : Int32) (a3 : Int32) (a4 : Int32) (h : xH), S emI kX5_readNumber h0 12 [(0, .ref a0), (1, .int a1), (2, .int a2), (3, .int a3), (4, .int a4)] [] h (fX5_readNumber_l12  k  a0 a1 a2 a3 a4 h) := by
  intro k
  induction k with
  | zero => intros; exact S_none
  | succ k ih => intro  a0 a1 a2 a3 a4 h; exact pX5_readNumber_b12 ih  a0 a1 a2 a3 a4 h
theorem pX5_readNumber_e    (a0 : Nat) (a1 : Int32) (a2 : Int32) (h : xH) : S emI kX5_readNumber h 0 [(0, .ref a0), (1, .int a1), (2, .int a2)] [] h (fX5_readNumber  a0 a1 a2 h) := by
  unfold fX5_readNumber
  refine s_aload_n (pc := 0) (k0 := 0) (i := 0) rfl 0 rfl (by decide +kernel) ?_
  refine S_gd (fun c1 => ?_)
  refine s_cVv (pc := 1) [] (tX5_skipBlanks a0 h) c1 cw_X5_50 rfl ⟨⟨Nat.le_of_ble_eq_true rfl, Nat.le_of_ble_eq_true rfl⟩, Nat.le_of_ble_eq_true rfl⟩ rfl (by decide +kernel) (fun _ g2 e3 => ?_)
  refine s_aload_n (pc := 4) (k0 := 0) (i := 0) rfl 0 rfl (by decide +kernel) ?_
  have c4 := kp e3 c1 (by decide)
  refine s_getI (pc := 5) (k := 3) c4 ft_X5_22 rfl (by decide +kernel) ?_
  refine s_nmI (fun v5 => ?_)
  refine s_istore_n (pc := 8) (L' := [(3, .int v5), (0, .ref a0), (1, .int a1), (2, .int a2)]) (k0 := 3) (i := 3) rfl (by decide) rfl (by decide +kernel) ?_
  refine s_iconst (pc := 9) (n := 0) (v := (0 : Int32)) (by decide) (by decide +kernel) ?_
  refine s_nmI (fun v6 => ?_)
  refine s_istore (pc := 10) (L' := [(4, .int v6), (3, .int v5), (0, .ref a0), (1, .int a1), (2, .int a2)]) (i := 4) (by decide) rfl (by decide +kernel) ?_
  refine S_sub [2, 3, 4, 1, 0] rfl ?_
  exact pX5_readNumber_l12 FU a0 a1 a2 v5 v6 g2
theorem tX5_readNumber (a0 : Nat) (a1 : Int32) (a2 : Int32) (h : xH) : Ct yX5_readNumber kX5_readNumber emI [.ref a0, .int a1, .int a2] h (fX5_readNumber a0 a1 a2 h) := Ct_of (by decide +kernel) rfl rfl rfl (Nat.le_of_ble_eq_true rfl) rfl (pX5_readNumber_e a0 a1 a2 h)
def fX5_readFraction_b91   (a0 : Nat) (h : xH) : Option (Int32 × xH) :=
  if kc h a0 = 5 then
  bd (fX5_fail a0 (hI h a0 5) h) (fun w4 g2 =>
  if w4 = 0 ∨ w4 = 1 then
  some (w4, g2)
  else none)
  else none
def fX5_readFraction_b115  (s0 : Int32) (s1 : Nat)  (h : xH) : Option (Int32 × xH) :=
  if kc h s1 = 5 then
  lt (sI h s1 6 s0) (fun g2 =>
  some ((1 : Int32), g2))
  else none
def fX5_readFraction_b72   (a0 : Nat) (a1 : Int32) (a2 : Int32) (a3 : Int32) (h : xH) : Option (Int32 × xH) :=
  if a3 ≤ 0 then (
  fX5_readFraction_b91 a0 h)
  else (
  if ¬ a3 = 0 then
  if (a2 - a2 / a3 * a3) = 0 then (
  if ¬ a3 = 0 then
  if (a2 / a3) ≤ (5940 : Int32) then (
  if a1 = 0 then (
  if ¬ a3 = 0 then
  fX5_readFraction_b115 (a2 / a3) a0 h
  else none)
  else (
  if ¬ a3 = 0 then
  fX5_readFraction_b115 (-(a2 / a3)) a0 h
  else none))
  else (
  fX5_readFraction_b91 a0 h)
  else none)
  else (
  fX5_readFraction_b91 a0 h)
  else none)
def fX5_readFraction   (a0 : Nat) (h : xH) : Option (Int32 × xH) :=
  if kc h a0 = 5 then
  bd (fX5_skipBlanks a0 h) (fun _ g2 =>
  lt (sI g2 a0 5 (hI g2 a0 3)) (fun g5 =>
  bd (fX5_takeSign a0 (45 : Int32) g5) (fun w10 g8 =>
  bd (fX5_readNumber a0 (0 : Int32) (9999 : Int32) g8) (fun w14 g12 =>
  if w14 = 0 then (
  some ((0 : Int32), g12))
  else (
  lt ((hI g12 a0 4) * (60 : Int32)) (fun v16 =>
  lt (1 : Int32) (fun v17 =>
  bd (fX5_skipBlanks a0 g12) (fun _ g18 =>
  bd (fX5_takeSign a0 (47 : Int32) g18) (fun w23 g21 =>
  if w23 = 0 then (
  fX5_readFraction_b72 a0 w10 v16 v17 g21)
  else (
  bd (fX5_readNumber a0 (1 : Int32) (60 : Int32) g21) (fun w27 g25 =>
  if w27 = 0 then (
  some ((0 : Int32), g25))
  else (
  lt (hI g25 a0 4) (fun v29 =>
  fX5_readFraction_b72 a0 w10 v16 v29 g25)))))))))))))
  else none
theorem pX5_readFraction_b91 {h0 : xH}    (a0 : Nat) (h : xH) : S emI kX5_readFraction h0 91 [(0, .ref a0)] [] h (fX5_readFraction_b91  a0 h) := by
  unfold fX5_readFraction_b91
  refine s_aload_n (pc := 91) (k0 := 0) (i := 0) rfl 0 rfl (by decide +kernel) ?_
  refine s_aload_n (pc := 92) (k0 := 0) (i := 0) rfl 0 rfl (by decide +kernel) ?_
  refine S_gd (fun c1 => ?_)
  refine s_getI (pc := 93) (k := 5) c1 ft_X5_28 rfl (by decide +kernel) ?_
  refine s_cVi (pc := 96) [.int (hI h a0 5)] (tX5_fail a0 (hI h a0 5) h) c1 cw_X5_61 rfl ⟨⟨Nat.le_of_ble_eq_true rfl, Nat.le_of_ble_eq_true rfl⟩, Nat.le_of_ble_eq_true rfl⟩ rfl (by decide +kernel) (fun w4 g2 e3 => ?_)
  refine S_gd (fun c5 => ?_)
  exact s_zret (pc := 99) c5 rfl (by decide +kernel)
theorem pX5_readFraction_b115 {h0 : xH}   (s0 : Int32) (s1 : Nat)  (h : xH) : S emI kX5_readFraction h0 115 [] [.int s0, .ref s1] h (fX5_readFraction_b115 s0 s1 h) := by
  unfold fX5_readFraction_b115
  refine S_gd (fun c1 => ?_)
  refine s_putI (pc := 115) (k := 6) c1 ft_X5_31 (fw_5_6 _ _) rfl rfl (by decide +kernel) ?_
  refine s_nmH (o := h) rfl (fun g2 e3 => ?_)
  refine s_iconst (pc := 118) (n := 1) (v := (1 : Int32)) (by decide) (by decide +kernel) ?_
  exact s_zret (pc := 119) (by decide) rfl (by decide +kernel)
theorem pX5_readFraction_b72 {h0 : xH}    (a0 : Nat) (a1 : Int32) (a2 : Int32) (a3 : Int32) (h : xH) : S emI kX5_readFraction h0 72 [(0, .ref a0), (1, .int a1), (2, .int a2), (3, .int a3)] [] h (fX5_readFraction_b72  a0 a1 a2 a3 h) := by
  unfold fX5_readFraction_b72
  refine s_iload_n (pc := 72) (k0 := 3) (i := 3) rfl 3 rfl (by decide +kernel) ?_
  refine s_if_le (pc := 73) (off := 18) 91 (by decide +kernel) (by decide) (fun _ => ?_) (fun _ => ?_)
  · refine S_sub [0] rfl ?_
    exact pX5_readFraction_b91 a0 h
  · refine s_iload_n (pc := 76) (k0 := 2) (i := 2) rfl 2 rfl (by decide +kernel) ?_
    refine s_iload_n (pc := 77) (k0 := 3) (i := 3) rfl 3 rfl (by decide +kernel) ?_
    refine s_irem (pc := 78) (by decide +kernel) ?_
    refine s_if_ne (pc := 79) (off := 12) 91 (by decide +kernel) (by decide) (fun _ => ?_) (fun _ => ?_)
    · refine s_iload_n (pc := 82) (k0 := 2) (i := 2) rfl 2 rfl (by decide +kernel) ?_
      refine s_iload_n (pc := 83) (k0 := 3) (i := 3) rfl 3 rfl (by decide +kernel) ?_
      refine s_idiv (pc := 84) (by decide +kernel) ?_
      refine s_sipush (pc := 85) (n := 5940) (v := (5940 : Int32)) (by decide) (by decide +kernel) ?_
      refine s_icmp_le (pc := 88) (off := 12) 100 (by decide +kernel) (by decide) (fun _ => ?_) (fun _ => ?_)
      · refine s_aload_n (pc := 100) (k0 := 0) (i := 0) rfl 0 rfl (by decide +kernel) ?_
        refine s_iload_n (pc := 101) (k0 := 1) (i := 1) rfl 1 rfl (by decide +kernel) ?_
        refine s_if_eq (pc := 102) (off := 10) 112 (by decide +kernel) (by decide) (fun _ => ?_) (fun _ => ?_)
        · refine s_iload_n (pc := 112) (k0 := 2) (i := 2) rfl 2 rfl (by decide +kernel) ?_
          refine s_iload_n (pc := 113) (k0 := 3) (i := 3) rfl 3 rfl (by decide +kernel) ?_
          refine s_idiv (pc := 114) (by decide +kernel) ?_
          refine S_sub [] rfl ?_
          exact pX5_readFraction_b115 (a2 / a3) a0 h
        · refine s_iload_n (pc := 105) (k0 := 2) (i := 2) rfl 2 rfl (by decide +kernel) ?_
          refine s_iload_n (pc := 106) (k0 := 3) (i := 3) rfl 3 rfl (by decide +kernel) ?_
          refine s_idiv (pc := 107) (by decide +kernel) ?_
          refine s_ineg (pc := 108) (by decide +kernel) ?_
          refine s_goto (pc := 109) (off := 6) 115 (by decide +kernel) (by decide) ?_
          refine S_sub [] rfl ?_
          exact pX5_readFraction_b115 (-(a2 / a3)) a0 h
      · refine S_sub [0] rfl ?_
        exact pX5_readFraction_b91 a0 h
    · refine S_sub [0] rfl ?_
      exact pX5_readFraction_b91 a0 h
theorem pX5_readFraction_e    (a0 : Nat) (h : xH) : S emI kX5_readFraction h 0 [(0, .ref a0)] [] h (fX5_readFraction  a0 h) := by
  unfold fX5_readFraction
  refine s_aload_n (pc := 0) (k0 := 0) (i := 0) rfl 0 rfl (by decide +kernel) ?_
  refine S_gd (fun c1 => ?_)
  refine s_cVv (pc := 1) [] (tX5_skipBlanks a0 h) c1 cw_X5_50 rfl ⟨⟨Nat.le_of_ble_eq_true rfl, Nat.le_of_ble_eq_true rfl⟩, Nat.le_of_ble_eq_true rfl⟩ rfl (by decide +kernel) (fun _ g2 e3 => ?_)
  refine s_aload_n (pc := 4) (k0 := 0) (i := 0) rfl 0 rfl (by decide +kernel) ?_
  refine s_aload_n (pc := 5) (k0 := 0) (i := 0) rfl 0 rfl (by decide +kernel) ?_
  have c4 := kp e3 c1 (by decide)
  refine s_getI (pc := 6) (k := 3) c4 ft_X5_22 rfl (by decide +kernel) ?_
  refine s_putI (pc := 9) (k := 5) c4 ft_X5_28 (fw_5_5 _ _) rfl rfl (by decide +kernel) ?_
  refine s_nmH (o := g2) rfl (fun g5 e6 => ?_)
  refine s_aload_n (pc := 12) (k0 := 0) (i := 0) rfl 0 rfl (by decide +kernel) ?_
  refine s_bipush (pc := 13) (n := 45) (v := (45 : Int32)) (by decide) (by decide +kernel) ?_
  have c7 := kp e6 c4 (by decide)
  refine s_cVi (pc := 15) [.int (45 : Int32)] (tX5_takeSign a0 (45 : Int32) g5) c7 cw_X5_57 rfl ⟨⟨Nat.le_of_ble_eq_true rfl, Nat.le_of_ble_eq_true rfl⟩, Nat.le_of_ble_eq_true rfl⟩ rfl (by decide +kernel) (fun w10 g8 e9 => ?_)
  refine s_istore_n (pc := 18) (L' := [(1, .int w10), (0, .ref a0)]) (k0 := 1) (i := 1) rfl (by decide) rfl (by decide +kernel) ?_
  refine s_aload_n (pc := 19) (k0 := 0) (i := 0) rfl 1 rfl (by decide +kernel) ?_
  refine s_iconst (pc := 20) (n := 0) (v := (0 : Int32)) (by decide) (by decide +kernel) ?_
  refine s_sipush (pc := 21) (n := 9999) (v := (9999 : Int32)) (by decide) (by decide +kernel) ?_
  have c11 := kp e9 c7 (by decide)
  refine s_cVi (pc := 24) [.int (0 : Int32), .int (9999 : Int32)] (tX5_readNumber a0 (0 : Int32) (9999 : Int32) g8) c11 cw_X5_79 rfl ⟨⟨Nat.le_of_ble_eq_true rfl, Nat.le_of_ble_eq_true rfl⟩, Nat.le_of_ble_eq_true rfl⟩ rfl (by decide +kernel) (fun w14 g12 e13 => ?_)
  refine s_if_ne (pc := 27) (off := 5) 32 (by decide +kernel) (by decide) (fun _ => ?_) (fun _ => ?_)
  · refine s_iconst (pc := 30) (n := 0) (v := (0 : Int32)) (by decide) (by decide +kernel) ?_
    exact s_zret (pc := 31) (by decide) rfl (by decide +kernel)
  · refine s_aload_n (pc := 32) (k0 := 0) (i := 0) rfl 1 rfl (by decide +kernel) ?_
    have c15 := kp e13 c11 (by decide)
    refine s_getI (pc := 33) (k := 4) c15 ft_X5_25 rfl (by decide +kernel) ?_
    refine s_bipush (pc := 36) (n := 60) (v := (60 : Int32)) (by decide) (by decide +kernel) ?_
    refine s_imul (pc := 38) (by decide +kernel) ?_
    refine s_nmI (fun v16 => ?_)
    refine s_istore_n (pc := 39) (L' := [(2, .int v16), (1, .int w10), (0, .ref a0)]) (k0 := 2) (i := 2) rfl (by decide) rfl (by decide +kernel) ?_
    refine s_iconst (pc := 40) (n := 1) (v := (1 : Int32)) (by decide) (by decide +kernel) ?_
    refine s_nmI (fun v17 => ?_)
    refine s_istore_n (pc := 41) (L' := [(3, .int v17), (2, .int v16), (1, .int w10), (0, .ref a0)]) (k0 := 3) (i := 3) rfl (by decide) rfl (by decide +kernel) ?_
    refine s_aload_n (pc := 42) (k0 := 0) (i := 0) rfl 3 rfl (by decide +kernel) ?_
    refine s_cVv (pc := 43) [] (tX5_skipBlanks a0 g12) c15 cw_X5_50 rfl ⟨⟨Nat.le_of_ble_eq_true rfl, Nat.le_of_ble_eq_true rfl⟩, Nat.le_of_ble_eq_true rfl⟩ rfl (by decide +kernel) (fun _ g18 e19 => ?_)
    refine s_aload_n (pc := 46) (k0 := 0) (i := 0) rfl 3 rfl (by decide +kernel) ?_
    refine s_bipush (pc := 47) (n := 47) (v := (47 : Int32)) (by decide) (by decide +kernel) ?_
    have c20 := kp e19 c15 (by decide)
    refine s_cVi (pc := 49) [.int (47 : Int32)] (tX5_takeSign a0 (47 : Int32) g18) c20 cw_X5_57 rfl ⟨⟨Nat.le_of_ble_eq_true rfl, Nat.le_of_ble_eq_true rfl⟩, Nat.le_of_ble_eq_true rfl⟩ rfl (by decide +kernel) (fun w23 g21 e22 => ?_)
    refine s_if_eq (pc := 52) (off := 20) 72 (by decide +kernel) (by decide) (fun _ => ?_) (fun _ => ?_)
    · refine S_sub [3, 2, 1, 0] rfl ?_
      exact pX5_readFraction_b72 a0 w10 v16 v17 g21
    · refine s_aload_n (pc := 55) (k0 := 0) (i := 0) rfl 3 rfl (by decide +kernel) ?_
      refine s_iconst (pc := 56) (n := 1) (v := (1 : Int32)) (by decide) (by decide +kernel) ?_
      refine s_bipush (pc := 57) (n := 60) (v := (60 : Int32)) (by decide) (by decide +kernel) ?_
      have c24 := kp e22 c20 (by decide)
      refine s_cVi (pc := 59) [.int (1 : Int32), .int (60 : Int32)] (tX5_readNumber a0 (1 : Int32) (60 : Int32) g21) c24 cw_X5_79 rfl ⟨⟨Nat.le_of_ble_eq_true rfl, Nat.le_of_ble_eq_true rfl⟩, Nat.le_of_ble_eq_true rfl⟩ rfl (by decide +kernel) (fun w27 g25 e26 => ?_)
      refine s_if_ne (pc := 62) (off := 5) 67 (by decide +kernel) (by decide) (fun _ => ?_) (fun _ => ?_)
      · refine s_iconst (pc := 65) (n := 0) (v := (0 : Int32)) (by decide) (by decide +kernel) ?_
        exact s_zret (pc := 66) (by decide) rfl (by decide +kernel)
      · refine s_aload_n (pc := 67) (k0 := 0) (i := 0) rfl 3 rfl (by decide +kernel) ?_
        have c28 := kp e26 c24 (by decide)
        refine s_getI (pc := 68) (k := 4) c28 ft_X5_25 rfl (by decide +kernel) ?_
        refine s_nmI (fun v29 => ?_)
        refine s_istore_n (pc := 71) (L' := [(3, .int v29), (2, .int v16), (1, .int w10), (0, .ref a0)]) (k0 := 3) (i := 3) rfl (by decide) rfl (by decide +kernel) ?_
        refine S_sub [3, 2, 1, 0] rfl ?_
        exact pX5_readFraction_b72 a0 w10 v16 v29 g25
theorem tX5_readFraction (a0 : Nat) (h : xH) : Ct yX5_readFraction kX5_readFraction emI [.ref a0] h (fX5_readFraction a0 h) := Ct_of (by decide +kernel) rfl rfl rfl (Nat.le_of_ble_eq_true rfl) rfl (pX5_readFraction_e a0 h)
def fX5_addReadKnot_b35   (a0 : Nat) (a2 : Int32) (a3 : Int32) (h : xH) : Option (Unit × xH) :=
  if kc h a0 = 5 then
  lt (sI h a0 9 a2) (fun g2 =>
  lt (sI g2 a0 10 a3) (fun g5 =>
  lt (sI g5 a0 7 ((hI g5 a0 7) + (1 : Int32))) (fun g8 =>
  lt (sI g8 a0 8 ((hI g8 a0 8) + (1 : Int32))) (fun g11 =>
  some ((), g11)))))
  else none
def fX5_addReadKnot   (a0 : Nat) (a1 : Nat) (a2 : Int32) (a3 : Int32) (h : xH) : Option (Unit × xH) :=
  if kc h a0 = 5 then
  if (hI h a0 8) ≤ 0 then (
  fX5_addReadKnot_b35 a0 a2 a3 h)
  else (
  if kc h a1 = 1 then
  bd (fX1_addBetween a1 ((hI h a0 9).toInt64) ((hI h a0 10).toInt64) ((a2 - (hI h a0 9)).toInt64) ((a3 - (hI h a0 10)).toInt64) h) (fun _ g3 =>
  fX5_addReadKnot_b35 a0 a2 a3 g3)
  else none)
  else none
theorem pX5_addReadKnot_b35 {h0 : xH}    (a0 : Nat) (a2 : Int32) (a3 : Int32) (h : xH) : S emV kX5_addReadKnot h0 35 [(0, .ref a0), (2, .int a2), (3, .int a3)] [] h (fX5_addReadKnot_b35  a0 a2 a3 h) := by
  unfold fX5_addReadKnot_b35
  refine s_aload_n (pc := 35) (k0 := 0) (i := 0) rfl 0 rfl (by decide +kernel) ?_
  refine s_iload_n (pc := 36) (k0 := 2) (i := 2) rfl 1 rfl (by decide +kernel) ?_
  refine S_gd (fun c1 => ?_)
  refine s_putI (pc := 37) (k := 9) c1 ft_X5_40 (fw_5_9 _ _) rfl rfl (by decide +kernel) ?_
  refine s_nmH (o := h) rfl (fun g2 e3 => ?_)
  refine s_aload_n (pc := 40) (k0 := 0) (i := 0) rfl 0 rfl (by decide +kernel) ?_
  refine s_iload_n (pc := 41) (k0 := 3) (i := 3) rfl 2 rfl (by decide +kernel) ?_
  have c4 := kp e3 c1 (by decide)
  refine s_putI (pc := 42) (k := 10) c4 ft_X5_43 (fw_5_10 _ _) rfl rfl (by decide +kernel) ?_
  refine s_nmH (o := g2) rfl (fun g5 e6 => ?_)
  refine s_aload_n (pc := 45) (k0 := 0) (i := 0) rfl 0 rfl (by decide +kernel) ?_
  refine s_dup_a (pc := 46) (by decide +kernel) ?_
  have c7 := kp e6 c4 (by decide)
  refine s_getI (pc := 47) (k := 7) c7 ft_X5_34 rfl (by decide +kernel) ?_
  refine s_iconst (pc := 50) (n := 1) (v := (1 : Int32)) (by decide) (by decide +kernel) ?_
  refine s_iadd (pc := 51) (by decide +kernel) ?_
  refine s_putI (pc := 52) (k := 7) c7 ft_X5_34 (fw_5_7 _ _) rfl rfl (by decide +kernel) ?_
  refine s_nmH (o := g5) rfl (fun g8 e9 => ?_)
  refine s_aload_n (pc := 55) (k0 := 0) (i := 0) rfl 0 rfl (by decide +kernel) ?_
  refine s_dup_a (pc := 56) (by decide +kernel) ?_
  have c10 := kp e9 c7 (by decide)
  refine s_getI (pc := 57) (k := 8) c10 ft_X5_37 rfl (by decide +kernel) ?_
  refine s_iconst (pc := 60) (n := 1) (v := (1 : Int32)) (by decide) (by decide +kernel) ?_
  refine s_iadd (pc := 61) (by decide +kernel) ?_
  refine s_putI (pc := 62) (k := 8) c10 ft_X5_37 (fw_5_8 _ _) rfl rfl (by decide +kernel) ?_
  refine s_nmH (o := g8) rfl (fun g11 e12 => ?_)
  exact s_vret (pc := 65) rfl (by decide +kernel)
theorem pX5_addReadKnot_e    (a0 : Nat) (a1 : Nat) (a2 : Int32) (a3 : Int32) (h : xH) : S emV kX5_addReadKnot h 0 [(0, .ref a0), (1, .ref a1), (2, .int a2), (3, .int a3)] [] h (fX5_addReadKnot  a0 a1 a2 a3 h) := by
  unfold fX5_addReadKnot
  refine s_aload_n (pc := 0) (k0 := 0) (i := 0) rfl 0 rfl (by decide +kernel) ?_
  refine S_gd (fun c1 => ?_)
  refine s_getI (pc := 1) (k := 8) c1 ft_X5_37 rfl (by decide +kernel) ?_
  refine s_if_le (pc := 4) (off := 31) 35 (by decide +kernel) (by decide) (fun _ => ?_) (fun _ => ?_)
  · refine S_sub [0, 2, 3] rfl ?_
    exact pX5_addReadKnot_b35 a0 a2 a3 h
  · refine s_aload_n (pc := 7) (k0 := 1) (i := 1) rfl 1 rfl (by decide +kernel) ?_
    refine s_aload_n (pc := 8) (k0 := 0) (i := 0) rfl 0 rfl (by decide +kernel) ?_
    refine s_getI (pc := 9) (k := 9) c1 ft_X5_40 rfl (by decide +kernel) ?_
    refine s_i2l (pc := 12) (by decide +kernel) ?_
    refine s_aload_n (pc := 13) (k0 := 0) (i := 0) rfl 0 rfl (by decide +kernel) ?_
    refine s_getI (pc := 14) (k := 10) c1 ft_X5_43 rfl (by decide +kernel) ?_
    refine s_i2l (pc := 17) (by decide +kernel) ?_
    refine s_iload_n (pc := 18) (k0 := 2) (i := 2) rfl 2 rfl (by decide +kernel) ?_
    refine s_aload_n (pc := 19) (k0 := 0) (i := 0) rfl 0 rfl (by decide +kernel) ?_
    refine s_getI (pc := 20) (k := 9) c1 ft_X5_40 rfl (by decide +kernel) ?_
    refine s_isub (pc := 23) (by decide +kernel) ?_
    refine s_i2l (pc := 24) (by decide +kernel) ?_
    refine s_iload_n (pc := 25) (k0 := 3) (i := 3) rfl 3 rfl (by decide +kernel) ?_
    refine s_aload_n (pc := 26) (k0 := 0) (i := 0) rfl 0 rfl (by decide +kernel) ?_
    refine s_getI (pc := 27) (k := 10) c1 ft_X5_43 rfl (by decide +kernel) ?_
    refine s_isub (pc := 30) (by decide +kernel) ?_
    refine s_i2l (pc := 31) (by decide +kernel) ?_
    refine S_gd (fun c2 => ?_)
    refine s_cVv (pc := 32) [.long ((hI h a0 9).toInt64), .long ((hI h a0 10).toInt64), .long ((a2 - (hI h a0 9)).toInt64), .long ((a3 - (hI h a0 10)).toInt64)] (tX1_addBetween a1 ((hI h a0 9).toInt64) ((hI h a0 10).toInt64) ((a2 - (hI h a0 9)).toInt64) ((a3 - (hI h a0 10)).toInt64) h) c2 cw_X5_73 rfl ⟨⟨Nat.le_of_ble_eq_true rfl, Nat.le_of_ble_eq_true rfl⟩, Nat.le_of_ble_eq_true rfl⟩ rfl (by decide +kernel) (fun _ g3 e4 => ?_)
    refine S_sub [0, 2, 3] rfl ?_
    exact pX5_addReadKnot_b35 a0 a2 a3 g3
theorem tX5_addReadKnot (a0 : Nat) (a1 : Nat) (a2 : Int32) (a3 : Int32) (h : xH) : Ct yX5_addReadKnot kX5_addReadKnot emV [.ref a0, .ref a1, .int a2, .int a3] h (fX5_addReadKnot a0 a1 a2 a3 h) := Ct_of (by decide +kernel) rfl rfl rfl (Nat.le_of_ble_eq_true rfl) rfl (pX5_addReadKnot_e a0 a1 a2 a3 h)
def fX5_readKnot_b74  (s0 : Int32) (a0 : Nat) (a1 : Nat) (a2 : Int32) (h : xH) : Option (Int32 × xH) :=
  if s0 = 0 then (
  if kc h a0 = 5 then
  bd (fX5_skipBlanks a0 h) (fun _ g2 =>
  bd (fX5_takeSign a0 (44 : Int32) g2) (fun w7 g5 =>
  if w7 = 0 then (
  bd (fX5_fail a0 (hI g5 a0 3) g5) (fun w18 g16 =>
  if w18 = 0 ∨ w18 = 1 then
  some (w18, g16)
  else none))
  else (
  bd (fX5_readFraction a0 g5) (fun w11 g9 =>
  if w11 = 0 then (
  some ((0 : Int32), g9))
  else (
  bd (fX5_addReadKnot a0 a1 a2 (hI g9 a0 6) g9) (fun _ g13 =>
  some ((1 : Int32), g13)))))))
  else none)
  else (
  if kc h a0 = 5 then
  bd (fX5_fail a0 (hI h a0 5) h) (fun w23 g21 =>
  if w23 = 0 ∨ w23 = 1 then
  some (w23, g21)
  else none)
  else none)
def fX5_readKnot_b73   (a0 : Nat) (a1 : Nat) (a2 : Int32) (h : xH) : Option (Int32 × xH) :=
  fX5_readKnot_b74 (0 : Int32) a0 a1 a2 h
def fX5_readKnot_b69   (a0 : Nat) (a1 : Nat) (a2 : Int32) (h : xH) : Option (Int32 × xH) :=
  fX5_readKnot_b74 (1 : Int32) a0 a1 a2 h
def fX5_readKnot   (a0 : Nat) (a1 : Nat) (h : xH) : Option (Int32 × xH) :=
  if kc h a0 = 5 then
  bd (fX5_skipBlanks a0 h) (fun _ g2 =>
  if (hI g2 a0 7) < (12 : Int32) then (
  bd (fX5_readFraction a0 g2) (fun w7 g5 =>
  if w7 = 0 then (
  some ((0 : Int32), g5))
  else (
  lt (hI g5 a0 6) (fun v9 =>
  if (hI g5 a0 7) ≤ 0 then (
  fX5_readKnot_b73 a0 a1 v9 g5)
  else (
  if (hI g5 a0 8) ≤ 0 then (
  if (hI g5 a0 9) ≤ v9 then (
  fX5_readKnot_b73 a0 a1 v9 g5)
  else (
  fX5_readKnot_b69 a0 a1 v9 g5))
  else (
  if (hI g5 a0 9) < v9 then (
  fX5_readKnot_b73 a0 a1 v9 g5)
  else (
  fX5_readKnot_b69 a0 a1 v9 g5)))))))
  else (
  bd (fX5_fail a0 (hI g2 a0 3) g2) (fun w12 g10 =>
  if w12 = 0 ∨ w12 = 1 then
  some (w12, g10)
  else none)))
  else none
theorem pX5_readKnot_b74 {h0 : xH}   (s0 : Int32) (a0 : Nat) (a1 : Nat) (a2 : Int32) (h : xH) : S emI kX5_readKnot h0 74 [(0, .ref a0), (1, .ref a1), (2, .int a2)] [.int s0] h (fX5_readKnot_b74 s0 a0 a1 a2 h) := by
  unfold fX5_readKnot_b74
  refine s_istore_n (pc := 74) (L' := [(3, .int s0), (0, .ref a0), (1, .ref a1), (2, .int a2)]) (k0 := 3) (i := 3) rfl (by decide) rfl (by decide +kernel) ?_
  refine s_iload_n (pc := 75) (k0 := 3) (i := 3) rfl 0 rfl (by decide +kernel) ?_
  refine s_if_eq (pc := 76) (off := 12) 88 (by decide +kernel) (by decide) (fun _ => ?_) (fun _ => ?_)
  · refine s_aload_n (pc := 88) (k0 := 0) (i := 0) rfl 1 rfl (by decide +kernel) ?_
    refine S_gd (fun c1 => ?_)
    refine s_cVv (pc := 89) [] (tX5_skipBlanks a0 h) c1 cw_X5_50 rfl ⟨⟨Nat.le_of_ble_eq_true rfl, Nat.le_of_ble_eq_true rfl⟩, Nat.le_of_ble_eq_true rfl⟩ rfl (by decide +kernel) (fun _ g2 e3 => ?_)
    refine s_aload_n (pc := 92) (k0 := 0) (i := 0) rfl 1 rfl (by decide +kernel) ?_
    refine s_bipush (pc := 93) (n := 44) (v := (44 : Int32)) (by decide) (by decide +kernel) ?_
    have c4 := kp e3 c1 (by decide)
    refine s_cVi (pc := 95) [.int (44 : Int32)] (tX5_takeSign a0 (44 : Int32) g2) c4 cw_X5_57 rfl ⟨⟨Nat.le_of_ble_eq_true rfl, Nat.le_of_ble_eq_true rfl⟩, Nat.le_of_ble_eq_true rfl⟩ rfl (by decide +kernel) (fun w7 g5 e6 => ?_)
    refine s_if_ne (pc := 98) (off := 12) 110 (by decide +kernel) (by decide) (fun _ => ?_) (fun _ => ?_)
    · refine s_aload_n (pc := 101) (k0 := 0) (i := 0) rfl 1 rfl (by decide +kernel) ?_
      refine s_aload_n (pc := 102) (k0 := 0) (i := 0) rfl 1 rfl (by decide +kernel) ?_
      have c15 := kp e6 c4 (by decide)
      refine s_getI (pc := 103) (k := 3) c15 ft_X5_22 rfl (by decide +kernel) ?_
      refine s_cVi (pc := 106) [.int (hI g5 a0 3)] (tX5_fail a0 (hI g5 a0 3) g5) c15 cw_X5_61 rfl ⟨⟨Nat.le_of_ble_eq_true rfl, Nat.le_of_ble_eq_true rfl⟩, Nat.le_of_ble_eq_true rfl⟩ rfl (by decide +kernel) (fun w18 g16 e17 => ?_)
      refine S_gd (fun c19 => ?_)
      exact s_zret (pc := 109) c19 rfl (by decide +kernel)
    · refine s_aload_n (pc := 110) (k0 := 0) (i := 0) rfl 1 rfl (by decide +kernel) ?_
      have c8 := kp e6 c4 (by decide)
      refine s_cVi (pc := 111) [] (tX5_readFraction a0 g5) c8 cw_X5_65 rfl ⟨⟨Nat.le_of_ble_eq_true rfl, Nat.le_of_ble_eq_true rfl⟩, Nat.le_of_ble_eq_true rfl⟩ rfl (by decide +kernel) (fun w11 g9 e10 => ?_)
      refine s_if_ne (pc := 114) (off := 5) 119 (by decide +kernel) (by decide) (fun _ => ?_) (fun _ => ?_)
      · refine s_iconst (pc := 117) (n := 0) (v := (0 : Int32)) (by decide) (by decide +kernel) ?_
        exact s_zret (pc := 118) (by decide) rfl (by decide +kernel)
      · refine s_aload_n (pc := 119) (k0 := 0) (i := 0) rfl 1 rfl (by decide +kernel) ?_
        refine s_aload_n (pc := 120) (k0 := 1) (i := 1) rfl 2 rfl (by decide +kernel) ?_
        refine s_iload_n (pc := 121) (k0 := 2) (i := 2) rfl 3 rfl (by decide +kernel) ?_
        refine s_aload_n (pc := 122) (k0 := 0) (i := 0) rfl 1 rfl (by decide +kernel) ?_
        have c12 := kp e10 c8 (by decide)
        refine s_getI (pc := 123) (k := 6) c12 ft_X5_31 rfl (by decide +kernel) ?_
        refine s_cVv (pc := 126) [.ref a1, .int a2, .int (hI g9 a0 6)] (tX5_addReadKnot a0 a1 a2 (hI g9 a0 6) g9) c12 cw_X5_69 rfl ⟨⟨Nat.le_of_ble_eq_true rfl, Nat.le_of_ble_eq_true rfl⟩, Nat.le_of_ble_eq_true rfl⟩ rfl (by decide +kernel) (fun _ g13 e14 => ?_)
        refine s_iconst (pc := 129) (n := 1) (v := (1 : Int32)) (by decide) (by decide +kernel) ?_
        exact s_zret (pc := 130) (by decide) rfl (by decide +kernel)
  · refine s_aload_n (pc := 79) (k0 := 0) (i := 0) rfl 1 rfl (by decide +kernel) ?_
    refine s_aload_n (pc := 80) (k0 := 0) (i := 0) rfl 1 rfl (by decide +kernel) ?_
    refine S_gd (fun c20 => ?_)
    refine s_getI (pc := 81) (k := 5) c20 ft_X5_28 rfl (by decide +kernel) ?_
    refine s_cVi (pc := 84) [.int (hI h a0 5)] (tX5_fail a0 (hI h a0 5) h) c20 cw_X5_61 rfl ⟨⟨Nat.le_of_ble_eq_true rfl, Nat.le_of_ble_eq_true rfl⟩, Nat.le_of_ble_eq_true rfl⟩ rfl (by decide +kernel) (fun w23 g21 e22 => ?_)
    refine S_gd (fun c24 => ?_)
    exact s_zret (pc := 87) c24 rfl (by decide +kernel)
theorem pX5_readKnot_b73 {h0 : xH}    (a0 : Nat) (a1 : Nat) (a2 : Int32) (h : xH) : S emI kX5_readKnot h0 73 [(0, .ref a0), (1, .ref a1), (2, .int a2)] [] h (fX5_readKnot_b73  a0 a1 a2 h) := by
  unfold fX5_readKnot_b73
  refine s_iconst (pc := 73) (n := 0) (v := (0 : Int32)) (by decide) (by decide +kernel) ?_
  exact pX5_readKnot_b74 (0 : Int32) a0 a1 a2 h
theorem pX5_readKnot_b69 {h0 : xH}    (a0 : Nat) (a1 : Nat) (a2 : Int32) (h : xH) : S emI kX5_readKnot h0 69 [(0, .ref a0), (1, .ref a1), (2, .int a2)] [] h (fX5_readKnot_b69  a0 a1 a2 h) := by
  unfold fX5_readKnot_b69
  refine s_iconst (pc := 69) (n := 1) (v := (1 : Int32)) (by decide) (by decide +kernel) ?_
  refine s_goto (pc := 70) (off := 4) 74 (by decide +kernel) (by decide) ?_
  exact pX5_readKnot_b74 (1 : Int32) a0 a1 a2 h
theorem pX5_readKnot_e    (a0 : Nat) (a1 : Nat) (h : xH) : S emI kX5_readKnot h 0 [(0, .ref a0), (1, .ref a1)] [] h (fX5_readKnot  a0 a1 h) := by
  unfold fX5_readKnot
  refine s_aload_n (pc := 0) (k0 := 0) (i := 0) rfl 0 rfl (by decide +kernel) ?_
  refine S_gd (fun c1 => ?_)
  refine s_cVv (pc := 1) [] (tX5_skipBlanks a0 h) c1 cw_X5_50 rfl ⟨⟨Nat.le_of_ble_eq_true rfl, Nat.le_of_ble_eq_true rfl⟩, Nat.le_of_ble_eq_true rfl⟩ rfl (by decide +kernel) (fun _ g2 e3 => ?_)
  refine s_aload_n (pc := 4) (k0 := 0) (i := 0) rfl 0 rfl (by decide +kernel) ?_
  have c4 := kp e3 c1 (by decide)
  refine s_getI (pc := 5) (k := 7) c4 ft_X5_34 rfl (by decide +kernel) ?_
  refine s_bipush (pc := 8) (n := 12) (v := (12 : Int32)) (by decide) (by decide +kernel) ?_
  refine s_icmp_lt (pc := 10) (off := 12) 22 (by decide +kernel) (by decide) (fun _ => ?_) (fun _ => ?_)
  · refine s_aload_n (pc := 22) (k0 := 0) (i := 0) rfl 0 rfl (by decide +kernel) ?_
    refine s_cVi (pc := 23) [] (tX5_readFraction a0 g2) c4 cw_X5_65 rfl ⟨⟨Nat.le_of_ble_eq_true rfl, Nat.le_of_ble_eq_true rfl⟩, Nat.le_of_ble_eq_true rfl⟩ rfl (by decide +kernel) (fun w7 g5 e6 => ?_)
    refine s_if_ne (pc := 26) (off := 5) 31 (by decide +kernel) (by decide) (fun _ => ?_) (fun _ => ?_)
    · refine s_iconst (pc := 29) (n := 0) (v := (0 : Int32)) (by decide) (by decide +kernel) ?_
      exact s_zret (pc := 30) (by decide) rfl (by decide +kernel)
    · refine s_aload_n (pc := 31) (k0 := 0) (i := 0) rfl 0 rfl (by decide +kernel) ?_
      have c8 := kp e6 c4 (by decide)
      refine s_getI (pc := 32) (k := 6) c8 ft_X5_31 rfl (by decide +kernel) ?_
      refine s_nmI (fun v9 => ?_)
      refine s_istore_n (pc := 35) (L' := [(2, .int v9), (0, .ref a0), (1, .ref a1)]) (k0 := 2) (i := 2) rfl (by decide) rfl (by decide +kernel) ?_
      refine s_aload_n (pc := 36) (k0 := 0) (i := 0) rfl 1 rfl (by decide +kernel) ?_
      refine s_getI (pc := 37) (k := 7) c8 ft_X5_34 rfl (by decide +kernel) ?_
      refine s_if_le (pc := 40) (off := 33) 73 (by decide +kernel) (by decide) (fun _ => ?_) (fun _ => ?_)
      · refine S_sub [1, 2, 0] rfl ?_
        exact pX5_readKnot_b73 a0 a1 v9 g5
      · refine s_aload_n (pc := 43) (k0 := 0) (i := 0) rfl 1 rfl (by decide +kernel) ?_
        refine s_getI (pc := 44) (k := 8) c8 ft_X5_37 rfl (by decide +kernel) ?_
        refine s_if_le (pc := 47) (off := 14) 61 (by decide +kernel) (by decide) (fun _ => ?_) (fun _ => ?_)
        · refine s_iload_n (pc := 61) (k0 := 2) (i := 2) rfl 0 rfl (by decide +kernel) ?_
          refine s_aload_n (pc := 62) (k0 := 0) (i := 0) rfl 1 rfl (by decide +kernel) ?_
          refine s_getI (pc := 63) (k := 9) c8 ft_X5_40 rfl (by decide +kernel) ?_
          refine s_icmp_ge (pc := 66) (off := 7) 73 (by decide +kernel) (by decide) (fun _ => ?_) (fun _ => ?_)
          · refine S_sub [1, 2, 0] rfl ?_
            exact pX5_readKnot_b73 a0 a1 v9 g5
          · refine S_sub [1, 2, 0] rfl ?_
            exact pX5_readKnot_b69 a0 a1 v9 g5
        · refine s_iload_n (pc := 50) (k0 := 2) (i := 2) rfl 0 rfl (by decide +kernel) ?_
          refine s_aload_n (pc := 51) (k0 := 0) (i := 0) rfl 1 rfl (by decide +kernel) ?_
          refine s_getI (pc := 52) (k := 9) c8 ft_X5_40 rfl (by decide +kernel) ?_
          refine s_icmp_gt (pc := 55) (off := 18) 73 (by decide +kernel) (by decide) (fun _ => ?_) (fun _ => ?_)
          · refine S_sub [1, 2, 0] rfl ?_
            exact pX5_readKnot_b73 a0 a1 v9 g5
          · refine s_goto (pc := 58) (off := 11) 69 (by decide +kernel) (by decide) ?_
            refine S_sub [1, 2, 0] rfl ?_
            exact pX5_readKnot_b69 a0 a1 v9 g5
  · refine s_aload_n (pc := 13) (k0 := 0) (i := 0) rfl 0 rfl (by decide +kernel) ?_
    refine s_aload_n (pc := 14) (k0 := 0) (i := 0) rfl 0 rfl (by decide +kernel) ?_
    refine s_getI (pc := 15) (k := 3) c4 ft_X5_22 rfl (by decide +kernel) ?_
    refine s_cVi (pc := 18) [.int (hI g2 a0 3)] (tX5_fail a0 (hI g2 a0 3) g2) c4 cw_X5_61 rfl ⟨⟨Nat.le_of_ble_eq_true rfl, Nat.le_of_ble_eq_true rfl⟩, Nat.le_of_ble_eq_true rfl⟩ rfl (by decide +kernel) (fun w12 g10 e11 => ?_)
    refine S_gd (fun c13 => ?_)
    exact s_zret (pc := 21) c13 rfl (by decide +kernel)
theorem tX5_readKnot (a0 : Nat) (a1 : Nat) (h : xH) : Ct yX5_readKnot kX5_readKnot emI [.ref a0, .ref a1] h (fX5_readKnot a0 a1 h) := Ct_of (by decide +kernel) rfl rfl rfl (Nat.le_of_ble_eq_true rfl) rfl (pX5_readKnot_e a0 a1 h)
def fX5_endPart_b24   (a0 : Nat) (h : xH) : Option (Unit × xH) :=
  if kc h a0 = 5 then
  lt (sI h a0 8 (0 : Int32)) (fun g2 =>
  some ((), g2))
  else none
def fX5_endPart   (a0 : Nat) (a1 : Nat) (h : xH) : Option (Unit × xH) :=
  if kc h a0 = 5 then
  if (hI h a0 8) = (1 : Int32) then (
  if kc h a1 = 1 then
  bd (fX1_addBetween a1 ((hI h a0 9).toInt64) ((hI h a0 10).toInt64) (0 : Int64) (0 : Int64) h) (fun _ g3 =>
  fX5_endPart_b24 a0 g3)
  else none)
  else (
  fX5_endPart_b24 a0 h)
  else none
theorem pX5_endPart_b24 {h0 : xH}    (a0 : Nat) (h : xH) : S emV kX5_endPart h0 24 [(0, .ref a0)] [] h (fX5_endPart_b24  a0 h) := by
  unfold fX5_endPart_b24
  refine s_aload_n (pc := 24) (k0 := 0) (i := 0) rfl 0 rfl (by decide +kernel) ?_
  refine s_iconst (pc := 25) (n := 0) (v := (0 : Int32)) (by decide) (by decide +kernel) ?_
  refine S_gd (fun c1 => ?_)
  refine s_putI (pc := 26) (k := 8) c1 ft_X5_37 (fw_5_8 _ _) rfl rfl (by decide +kernel) ?_
  refine s_nmH (o := h) rfl (fun g2 e3 => ?_)
  exact s_vret (pc := 29) rfl (by decide +kernel)
theorem pX5_endPart_e    (a0 : Nat) (a1 : Nat) (h : xH) : S emV kX5_endPart h 0 [(0, .ref a0), (1, .ref a1)] [] h (fX5_endPart  a0 a1 h) := by
  unfold fX5_endPart
  refine s_aload_n (pc := 0) (k0 := 0) (i := 0) rfl 0 rfl (by decide +kernel) ?_
  refine S_gd (fun c1 => ?_)
  refine s_getI (pc := 1) (k := 8) c1 ft_X5_37 rfl (by decide +kernel) ?_
  refine s_iconst (pc := 4) (n := 1) (v := (1 : Int32)) (by decide) (by decide +kernel) ?_
  refine s_icmp_ne (pc := 5) (off := 19) 24 (by decide +kernel) (by decide) (fun _ => ?_) (fun _ => ?_)
  · refine s_aload_n (pc := 8) (k0 := 1) (i := 1) rfl 1 rfl (by decide +kernel) ?_
    refine s_aload_n (pc := 9) (k0 := 0) (i := 0) rfl 0 rfl (by decide +kernel) ?_
    refine s_getI (pc := 10) (k := 9) c1 ft_X5_40 rfl (by decide +kernel) ?_
    refine s_i2l (pc := 13) (by decide +kernel) ?_
    refine s_aload_n (pc := 14) (k0 := 0) (i := 0) rfl 0 rfl (by decide +kernel) ?_
    refine s_getI (pc := 15) (k := 10) c1 ft_X5_43 rfl (by decide +kernel) ?_
    refine s_i2l (pc := 18) (by decide +kernel) ?_
    refine s_lconst (pc := 19) (n := 0) (v := (0 : Int64)) (by decide) (by decide +kernel) ?_
    refine s_lconst (pc := 20) (n := 0) (v := (0 : Int64)) (by decide) (by decide +kernel) ?_
    refine S_gd (fun c2 => ?_)
    refine s_cVv (pc := 21) [.long ((hI h a0 9).toInt64), .long ((hI h a0 10).toInt64), .long (0 : Int64), .long (0 : Int64)] (tX1_addBetween a1 ((hI h a0 9).toInt64) ((hI h a0 10).toInt64) (0 : Int64) (0 : Int64) h) c2 cw_X5_73 rfl ⟨⟨Nat.le_of_ble_eq_true rfl, Nat.le_of_ble_eq_true rfl⟩, Nat.le_of_ble_eq_true rfl⟩ rfl (by decide +kernel) (fun _ g3 e4 => ?_)
    refine S_sub [0] rfl ?_
    exact pX5_endPart_b24 a0 g3
  · refine S_sub [0] rfl ?_
    exact pX5_endPart_b24 a0 h
theorem tX5_endPart (a0 : Nat) (a1 : Nat) (h : xH) : Ct yX5_endPart kX5_endPart emV [.ref a0, .ref a1] h (fX5_endPart a0 a1 h) := Ct_of (by decide +kernel) rfl rfl rfl (Nat.le_of_ble_eq_true rfl) rfl (pX5_endPart_e a0 a1 h)
def fX5_readText_b76 (r22 : Nat → Nat → Int32 → xH → Option (Int32 × xH))  (a0 : Nat) (a1 : Nat) (a2 : Int32) (h : xH) : Option (Int32 × xH) :=
  lt (a2 + (1 : Int32)) (fun v1 =>
  r22 a0 a1 v1 h)
def fX5_readText_b22 (r22 : Nat → Nat → Int32 → xH → Option (Int32 × xH))  (a0 : Nat) (a1 : Nat) (a2 : Int32) (h : xH) : Option (Int32 × xH) :=
  if kc h a0 = 5 then
  if (hI h a0 0) < a2 then (
  bd (fX5_fail a0 (hI h a0 0) h) (fun w4 g2 =>
  if w4 = 0 ∨ w4 = 1 then
  some (w4, g2)
  else none))
  else (
  bd (fX5_readKnot a0 a1 h) (fun w8 g6 =>
  if w8 = 0 then (
  some ((0 : Int32), g6))
  else (
  bd (fX5_skipBlanks a0 g6) (fun _ g10 =>
  if (hI g10 a0 3) < (hI g10 a0 0) then (
  bd (fX5_takeSign a0 (124 : Int32) g10) (fun w15 g13 =>
  if w15 = 0 then (
  fX5_readText_b76 r22 a0 a1 a2 g13)
  else (
  bd (fX5_endPart a0 a1 g13) (fun _ g17 =>
  fX5_readText_b76 r22 a0 a1 a2 g17))))
  else (
  bd (fX5_endPart a0 a1 g10) (fun _ g19 =>
  some ((1 : Int32), g19)))))))
  else none
def fX5_readText_l22  : Nat → Nat → Nat → Int32 → xH → Option (Int32 × xH)
  | 0 => fun _ _ _ _ => none
  | k + 1 => fX5_readText_b22 (fX5_readText_l22  k)
def fX5_readText   (a0 : Nat) (a1 : Nat) (h : xH) : Option (Int32 × xH) :=
  if kc h a0 = 5 then
  lt (sI h a0 3 (0 : Int32)) (fun g2 =>
  lt (sI g2 a0 7 (0 : Int32)) (fun g5 =>
  lt (sI g5 a0 8 (0 : Int32)) (fun g8 =>
  lt (sI g8 a0 1 (-1 : Int32)) (fun g11 =>
  lt (0 : Int32) (fun v13 =>
  fX5_readText_l22 FU a0 a1 v13 g11)))))
  else none
theorem pX5_readText_b76 {h0 : xH} {r22 : Nat → Nat → Int32 → xH → Option (Int32 × xH)} (hr22 : ∀  (a0 : Nat) (a1 : Nat) (a2 : Int32) (g : xH), S emI kX5_readText h0 22 [(0, .ref a0), (1, .ref a1), (2, .int a2)] [] g (r22  a0 a1 a2 g))  (a0 : Nat) (a1 : Nat) (a2 : Int32) (h : xH) : S emI kX5_readText h0 76 [(0, .ref a0), (1, .ref a1), (2, .int a2)] [] h (fX5_readText_b76 r22 a0 a1 a2 h) := by
  unfold fX5_readText_b76
  refine s_iinc (pc := 76) (L' := [(2, .int (a2 + (1 : Int32))), (0, .ref a0), (1, .ref a1)]) (i := 2) (n := 1) 2 rfl rfl (by decide) rfl (by decide +kernel) ?_
  refine s_nmI0 (e := a2 + (1 : Int32)) (L := fun v1 => [(2, .int v1), (0, .ref a0), (1, .ref a1)]) (fun v1 => ?_)
  refine s_goto (pc := 79) (off := -57) 22 (by decide +kernel) (by decide) ?_
  refine S_sub [1, 2, 0] rfl ?_
  exact hr22 a0 a1 v1 h
theorem pX5_readText_b22 {h0 : xH} {r22 : Nat → Nat → Int32 → xH → Option (Int32 × xH)} (hr22 : ∀  (a0 : Nat) (a1 : Nat) (a2 : Int32) (g : xH), S emI kX5_readText h0 22 [(0, .ref a0), (1, .ref a1), (2, .int a2)] [] g (r22  a0 a1 a2 g))  (a0 : Nat) (a1 : Nat) (a2 : Int32) (h : xH) : S emI kX5_readText h0 22 [(0, .ref a0), (1, .ref a1), (2, .int a2)] [] h (fX5_readText_b22 r22 a0 a1 a2 h) := by
  unfold fX5_readText_b22
  refine s_iload_n (pc := 22) (k0 := 2) (i := 2) rfl 2 rfl (by decide +kernel) ?_
  refine s_aload_n (pc := 23) (k0 := 0) (i := 0) rfl 0 rfl (by decide +kernel) ?_
  refine S_gd (fun c1 => ?_)
  refine s_getI (pc := 24) (k := 0) c1 ft_X5_9 rfl (by decide +kernel) ?_
  refine s_icmp_gt (pc := 27) (off := 55) 82 (by decide +kernel) (by decide) (fun _ => ?_) (fun _ => ?_)
  · refine s_aload_n (pc := 82) (k0 := 0) (i := 0) rfl 0 rfl (by decide +kernel) ?_
    refine s_aload_n (pc := 83) (k0 := 0) (i := 0) rfl 0 rfl (by decide +kernel) ?_
    refine s_getI (pc := 84) (k := 0) c1 ft_X5_9 rfl (by decide +kernel) ?_
    refine s_cVi (pc := 87) [.int (hI h a0 0)] (tX5_fail a0 (hI h a0 0) h) c1 cw_X5_61 rfl ⟨⟨Nat.le_of_ble_eq_true rfl, Nat.le_of_ble_eq_true rfl⟩, Nat.le_of_ble_eq_true rfl⟩ rfl (by decide +kernel) (fun w4 g2 e3 => ?_)
    refine S_gd (fun c5 => ?_)
    exact s_zret (pc := 90) c5 rfl (by decide +kernel)
  · refine s_aload_n (pc := 30) (k0 := 0) (i := 0) rfl 0 rfl (by decide +kernel) ?_
    refine s_aload_n (pc := 31) (k0 := 1) (i := 1) rfl 1 rfl (by decide +kernel) ?_
    refine s_cVi (pc := 32) [.ref a1] (tX5_readKnot a0 a1 h) c1 cw_X5_46 rfl ⟨⟨Nat.le_of_ble_eq_true rfl, Nat.le_of_ble_eq_true rfl⟩, Nat.le_of_ble_eq_true rfl⟩ rfl (by decide +kernel) (fun w8 g6 e7 => ?_)
    refine s_if_ne (pc := 35) (off := 5) 40 (by decide +kernel) (by decide) (fun _ => ?_) (fun _ => ?_)
    · refine s_iconst (pc := 38) (n := 0) (v := (0 : Int32)) (by decide) (by decide +kernel) ?_
      exact s_zret (pc := 39) (by decide) rfl (by decide +kernel)
    · refine s_aload_n (pc := 40) (k0 := 0) (i := 0) rfl 0 rfl (by decide +kernel) ?_
      have c9 := kp e7 c1 (by decide)
      refine s_cVv (pc := 41) [] (tX5_skipBlanks a0 g6) c9 cw_X5_50 rfl ⟨⟨Nat.le_of_ble_eq_true rfl, Nat.le_of_ble_eq_true rfl⟩, Nat.le_of_ble_eq_true rfl⟩ rfl (by decide +kernel) (fun _ g10 e11 => ?_)
      refine s_aload_n (pc := 44) (k0 := 0) (i := 0) rfl 0 rfl (by decide +kernel) ?_
      have c12 := kp e11 c9 (by decide)
      refine s_getI (pc := 45) (k := 3) c12 ft_X5_22 rfl (by decide +kernel) ?_
      refine s_aload_n (pc := 48) (k0 := 0) (i := 0) rfl 0 rfl (by decide +kernel) ?_
      refine s_getI (pc := 49) (k := 0) c12 ft_X5_9 rfl (by decide +kernel) ?_
      refine s_icmp_lt (pc := 52) (off := 10) 62 (by decide +kernel) (by decide) (fun _ => ?_) (fun _ => ?_)
      · refine s_aload_n (pc := 62) (k0 := 0) (i := 0) rfl 0 rfl (by decide +kernel) ?_
        refine s_bipush (pc := 63) (n := 124) (v := (124 : Int32)) (by decide) (by decide +kernel) ?_
        refine s_cVi (pc := 65) [.int (124 : Int32)] (tX5_takeSign a0 (124 : Int32) g10) c12 cw_X5_57 rfl ⟨⟨Nat.le_of_ble_eq_true rfl, Nat.le_of_ble_eq_true rfl⟩, Nat.le_of_ble_eq_true rfl⟩ rfl (by decide +kernel) (fun w15 g13 e14 => ?_)
        refine s_if_eq (pc := 68) (off := 8) 76 (by decide +kernel) (by decide) (fun _ => ?_) (fun _ => ?_)
        · exact pX5_readText_b76 hr22 a0 a1 a2 g13
        · refine s_aload_n (pc := 71) (k0 := 0) (i := 0) rfl 0 rfl (by decide +kernel) ?_
          refine s_aload_n (pc := 72) (k0 := 1) (i := 1) rfl 1 rfl (by decide +kernel) ?_
          have c16 := kp e14 c12 (by decide)
          refine s_cVv (pc := 73) [.ref a1] (tX5_endPart a0 a1 g13) c16 cw_X5_53 rfl ⟨⟨Nat.le_of_ble_eq_true rfl, Nat.le_of_ble_eq_true rfl⟩, Nat.le_of_ble_eq_true rfl⟩ rfl (by decide +kernel) (fun _ g17 e18 => ?_)
          exact pX5_readText_b76 hr22 a0 a1 a2 g17
      · refine s_aload_n (pc := 55) (k0 := 0) (i := 0) rfl 0 rfl (by decide +kernel) ?_
        refine s_aload_n (pc := 56) (k0 := 1) (i := 1) rfl 1 rfl (by decide +kernel) ?_
        refine s_cVv (pc := 57) [.ref a1] (tX5_endPart a0 a1 g10) c12 cw_X5_53 rfl ⟨⟨Nat.le_of_ble_eq_true rfl, Nat.le_of_ble_eq_true rfl⟩, Nat.le_of_ble_eq_true rfl⟩ rfl (by decide +kernel) (fun _ g19 e20 => ?_)
        refine s_iconst (pc := 60) (n := 1) (v := (1 : Int32)) (by decide) (by decide +kernel) ?_
        exact s_zret (pc := 61) (by decide) rfl (by decide +kernel)
theorem pX5_readText_l22 {h0 : xH}   : ∀ (k : Nat)  (a0 : Nat) (a1 : Nat) (a2 : Int32) (h : xH), S emI kX5_readText h0 22 [(0, .ref a0), (1, .ref a1), (2, .int a2)] [] h (fX5_readText_l22  k  a0 a1 a2 h) := by
  intro k
  induction k with
  | zero => intros; exact S_none
  | succ k ih => intro  a0 a1 a2 h; exact pX5_readText_b22 ih  a0 a1 a2 h
theorem pX5_readText_e    (a0 : Nat) (a1 : Nat) (h : xH) : S emI kX5_readText h 0 [(0, .ref a0), (1, .ref a1)] [] h (fX5_readText  a0 a1 h) := by
  unfold fX5_readText
  refine s_aload_n (pc := 0) (k0 := 0) (i := 0) rfl 0 rfl (by decide +kernel) ?_
  refine s_iconst (pc := 1) (n := 0) (v := (0 : Int32)) (by decide) (by decide +kernel) ?_
  refine S_gd (fun c1 => ?_)
  refine s_putI (pc := 2) (k := 3) c1 ft_X5_22 (fw_5_3 _ _) rfl rfl (by decide +kernel) ?_
  refine s_nmH (o := h) rfl (fun g2 e3 => ?_)
  refine s_aload_n (pc := 5) (k0 := 0) (i := 0) rfl 0 rfl (by decide +kernel) ?_
  refine s_iconst (pc := 6) (n := 0) (v := (0 : Int32)) (by decide) (by decide +kernel) ?_
  have c4 := kp e3 c1 (by decide)
  refine s_putI (pc := 7) (k := 7) c4 ft_X5_34 (fw_5_7 _ _) rfl rfl (by decide +kernel) ?_
  refine s_nmH (o := g2) rfl (fun g5 e6 => ?_)
  refine s_aload_n (pc := 10) (k0 := 0) (i := 0) rfl 0 rfl (by decide +kernel) ?_
  refine s_iconst (pc := 11) (n := 0) (v := (0 : Int32)) (by decide) (by decide +kernel) ?_
  have c7 := kp e6 c4 (by decide)
  refine s_putI (pc := 12) (k := 8) c7 ft_X5_37 (fw_5_8 _ _) rfl rfl (by decide +kernel) ?_
  refine s_nmH (o := g5) rfl (fun g8 e9 => ?_)
  refine s_aload_n (pc := 15) (k0 := 0) (i := 0) rfl 0 rfl (by decide +kernel) ?_
  refine s_iconst (pc := 16) (n := -1) (v := (-1 : Int32)) (by decide) (by decide +kernel) ?_
  have c10 := kp e9 c7 (by decide)
  refine s_putI (pc := 17) (k := 1) c10 ft_X5_15 (fw_5_1 _ _) rfl rfl (by decide +kernel) ?_
  refine s_nmH (o := g8) rfl (fun g11 e12 => ?_)
  refine s_iconst (pc := 20) (n := 0) (v := (0 : Int32)) (by decide) (by decide +kernel) ?_
  refine s_nmI (fun v13 => ?_)
  refine s_istore_n (pc := 21) (L' := [(2, .int v13), (0, .ref a0), (1, .ref a1)]) (k0 := 2) (i := 2) rfl (by decide) rfl (by decide +kernel) ?_
  refine S_sub [1, 2, 0] rfl ?_
  exact pX5_readText_l22 FU a0 a1 v13 g11
theorem tX5_readText (a0 : Nat) (a1 : Nat) (h : xH) : Ct yX5_readText kX5_readText emI [.ref a0, .ref a1] h (fX5_readText a0 a1 h) := Ct_of (by decide +kernel) rfl rfl rfl (Nat.le_of_ble_eq_true rfl) rfl (pX5_readText_e a0 a1 h)
def fX0_keep   (a0 : Nat) (a1 : Int32) (a2 : Int32) (a3 : Nat) (h : xH) : Option (Nat × xH) :=
  if kc h a0 = 0 then
  if kc h (hR h a0 5) = 12 then
  if ix (hI h a0 2) (kl h (hR h a0 5)) then
  lt (hR h (hR h a0 5) (hI h a0 2).toNatClampNeg) (fun v4 =>
  if kc h (hR h a0 3) = 8 then
  if ix (hI h a0 2) (kl h (hR h a0 3)) then
  lt (sI h (hR h a0 3) (hI h a0 2).toNatClampNeg a1) (fun g7 =>
  if kc g7 (hR g7 a0 4) = 8 then
  if ix (hI g7 a0 2) (kl g7 (hR g7 a0 4)) then
  lt (sI g7 (hR g7 a0 4) (hI g7 a0 2).toNatClampNeg a2) (fun g12 =>
  if kc g12 a3 = 4 then
  if kc g12 (hR g12 a0 5) = 12 then
  if ix (hI g12 a0 2) (kl g12 (hR g12 a0 5)) then
  lt (sR g12 (hR g12 a0 5) (hI g12 a0 2).toNatClampNeg a3) (fun g18 =>
  if ¬ (8 : Int32) = 0 then
  lt (sI g18 a0 2 (((hI g18 a0 2) + (1 : Int32)) - ((hI g18 a0 2) + (1 : Int32)) / (8 : Int32) * (8 : Int32))) (fun g21 =>
  bd (fJ9_min_7cf53 ((hI g21 a0 0) + (1 : Int32)) (8 : Int32) g21) (fun w26 g24 =>
  lt (sI g24 a0 0 w26) (fun g28 =>
  some (v4, g28))))
  else none)
  else none
  else none
  else none)
  else none
  else none)
  else none
  else none)
  else none
  else none
  else none
theorem pX0_keep_e    (a0 : Nat) (a1 : Int32) (a2 : Int32) (a3 : Nat) (h : xH) : S emR kX0_keep h 0 [(0, .ref a0), (1, .int a1), (2, .int a2), (3, .ref a3)] [] h (fX0_keep  a0 a1 a2 a3 h) := by
  unfold fX0_keep
  refine s_aload_n (pc := 0) (k0 := 0) (i := 0) rfl 0 rfl (by decide +kernel) ?_
  refine S_gd (fun c1 => ?_)
  refine s_getR (pc := 1) (k := 5) c1 ft_X0_30 rfl (by decide +kernel) ?_
  refine s_aload_n (pc := 4) (k0 := 0) (i := 0) rfl 0 rfl (by decide +kernel) ?_
  refine s_getI (pc := 5) (k := 2) c1 ft_X0_18 rfl (by decide +kernel) ?_
  refine S_gd (fun c2 => ?_)
  refine S_gd (fun c3 => ?_)
  refine s_aald (pc := 8) c2 c3 (by decide +kernel) ?_
  refine s_nmA (fun v4 => ?_)
  refine s_astore (pc := 9) (L' := [(4, .ref v4), (0, .ref a0), (1, .int a1), (2, .int a2), (3, .ref a3)]) (i := 4) (by decide) rfl (by decide +kernel) ?_
  refine s_aload_n (pc := 11) (k0 := 0) (i := 0) rfl 1 rfl (by decide +kernel) ?_
  refine s_getR (pc := 12) (k := 3) c1 ft_X0_21 rfl (by decide +kernel) ?_
  refine s_aload_n (pc := 15) (k0 := 0) (i := 0) rfl 1 rfl (by decide +kernel) ?_
  refine s_getI (pc := 16) (k := 2) c1 ft_X0_18 rfl (by decide +kernel) ?_
  refine s_iload_n (pc := 19) (k0 := 1) (i := 1) rfl 2 rfl (by decide +kernel) ?_
  refine S_gd (fun c5 => ?_)
  refine S_gd (fun c6 => ?_)
  refine s_iast (pc := 20) c5 c6 (by decide +kernel) ?_
  refine s_nmH (o := h) rfl (fun g7 e8 => ?_)
  refine s_aload_n (pc := 21) (k0 := 0) (i := 0) rfl 1 rfl (by decide +kernel) ?_
  have c9 := kp e8 c1 (by decide)
  refine s_getR (pc := 22) (k := 4) c9 ft_X0_25 rfl (by decide +kernel) ?_
  refine s_aload_n (pc := 25) (k0 := 0) (i := 0) rfl 1 rfl (by decide +kernel) ?_
  refine s_getI (pc := 26) (k := 2) c9 ft_X0_18 rfl (by decide +kernel) ?_
  refine s_iload_n (pc := 29) (k0 := 2) (i := 2) rfl 3 rfl (by decide +kernel) ?_
  refine S_gd (fun c10 => ?_)
  refine S_gd (fun c11 => ?_)
  refine s_iast (pc := 30) c10 c11 (by decide +kernel) ?_
  refine s_nmH (o := g7) rfl (fun g12 e13 => ?_)
  refine s_aload_n (pc := 31) (k0 := 0) (i := 0) rfl 1 rfl (by decide +kernel) ?_
  have c14 := kp e13 c9 (by decide)
  refine s_getR (pc := 32) (k := 5) c14 ft_X0_30 rfl (by decide +kernel) ?_
  refine s_aload_n (pc := 35) (k0 := 0) (i := 0) rfl 1 rfl (by decide +kernel) ?_
  refine s_getI (pc := 36) (k := 2) c14 ft_X0_18 rfl (by decide +kernel) ?_
  refine s_aload_n (pc := 39) (k0 := 3) (i := 3) rfl 4 rfl (by decide +kernel) ?_
  refine S_gd (fun c15 => ?_)
  refine S_gd (fun c16 => ?_)
  refine S_gd (fun c17 => ?_)
  refine s_aast (pc := 40) c15 c16 c17 (by decide +kernel) ?_
  refine s_nmH (o := g12) rfl (fun g18 e19 => ?_)
  refine s_aload_n (pc := 41) (k0 := 0) (i := 0) rfl 1 rfl (by decide +kernel) ?_
  refine s_aload_n (pc := 42) (k0 := 0) (i := 0) rfl 1 rfl (by decide +kernel) ?_
  have c20 := kp e19 c14 (by decide)
  refine s_getI (pc := 43) (k := 2) c20 ft_X0_18 rfl (by decide +kernel) ?_
  refine s_iconst (pc := 46) (n := 1) (v := (1 : Int32)) (by decide) (by decide +kernel) ?_
  refine s_iadd (pc := 47) (by decide +kernel) ?_
  refine s_bipush (pc := 48) (n := 8) (v := (8 : Int32)) (by decide) (by decide +kernel) ?_
  refine s_irem (pc := 50) (by decide +kernel) ?_
  refine s_putI (pc := 51) (k := 2) c20 ft_X0_18 (fw_0_2 _ _) rfl rfl (by decide +kernel) ?_
  refine s_nmH (o := g18) rfl (fun g21 e22 => ?_)
  refine s_aload_n (pc := 54) (k0 := 0) (i := 0) rfl 1 rfl (by decide +kernel) ?_
  refine s_aload_n (pc := 55) (k0 := 0) (i := 0) rfl 1 rfl (by decide +kernel) ?_
  have c23 := kp e22 c20 (by decide)
  refine s_getI (pc := 56) (k := 0) c23 ft_X0_9 rfl (by decide +kernel) ?_
  refine s_iconst (pc := 59) (n := 1) (v := (1 : Int32)) (by decide) (by decide +kernel) ?_
  refine s_iadd (pc := 60) (by decide +kernel) ?_
  refine s_bipush (pc := 61) (n := 8) (v := (8 : Int32)) (by decide) (by decide +kernel) ?_
  refine s_cSi (pc := 63) [.int ((hI g21 a0 0) + (1 : Int32)), .int (8 : Int32)] (tJ9_min_7cf53 ((hI g21 a0 0) + (1 : Int32)) (8 : Int32) g21) cw_X0_35 rfl ⟨⟨Nat.le_of_ble_eq_true rfl, Nat.le_of_ble_eq_true rfl⟩, Nat.le_of_ble_eq_true rfl⟩ rfl (by decide +kernel) (fun w26 g24 e25 => ?_)
  have c27 := kp e25 c23 (by decide)
  refine s_putI (pc := 66) (k := 0) c27 ft_X0_9 (fw_0_0 _ _) rfl rfl (by decide +kernel) ?_
  refine s_nmH (o := g24) rfl (fun g28 e29 => ?_)
  refine s_aload (pc := 69) (i := 4) 0 rfl (by decide +kernel) ?_
  exact s_aret (pc := 71) rfl rfl (by decide +kernel)
theorem tX0_keep (a0 : Nat) (a1 : Int32) (a2 : Int32) (a3 : Nat) (h : xH) : Ct yX0_keep kX0_keep emR [.ref a0, .int a1, .int a2, .ref a3] h (fX0_keep a0 a1 a2 a3 h) := Ct_of (by decide +kernel) rfl rfl rfl (Nat.le_of_ble_eq_true rfl) rfl (pX0_keep_e a0 a1 a2 a3 h)
def fX0_latest   (a0 : Nat) (h : xH) : Option (Int32 × xH) :=
  if kc h a0 = 0 then
  if ¬ (8 : Int32) = 0 then
  some (((((hI h a0 2) + (8 : Int32)) - (1 : Int32)) - (((hI h a0 2) + (8 : Int32)) - (1 : Int32)) / (8 : Int32) * (8 : Int32)), h)
  else none
  else none
theorem pX0_latest_e    (a0 : Nat) (h : xH) : S emI kX0_latest h 0 [(0, .ref a0)] [] h (fX0_latest  a0 h) := by
  unfold fX0_latest
  refine s_aload_n (pc := 0) (k0 := 0) (i := 0) rfl 0 rfl (by decide +kernel) ?_
  refine S_gd (fun c1 => ?_)
  refine s_getI (pc := 1) (k := 2) c1 ft_X0_18 rfl (by decide +kernel) ?_
  refine s_bipush (pc := 4) (n := 8) (v := (8 : Int32)) (by decide) (by decide +kernel) ?_
  refine s_iadd (pc := 6) (by decide +kernel) ?_
  refine s_iconst (pc := 7) (n := 1) (v := (1 : Int32)) (by decide) (by decide +kernel) ?_
  refine s_isub (pc := 8) (by decide +kernel) ?_
  refine s_bipush (pc := 9) (n := 8) (v := (8 : Int32)) (by decide) (by decide +kernel) ?_
  refine s_irem (pc := 11) (by decide +kernel) ?_
  exact s_iret (pc := 12) rfl (by decide +kernel)
theorem tX0_latest (a0 : Nat) (h : xH) : Ct yX0_latest kX0_latest emI [.ref a0] h (fX0_latest a0 h) := Ct_of (by decide +kernel) rfl rfl rfl (Nat.le_of_ble_eq_true rfl) rfl (pX0_latest_e a0 h)
def fX0_latestSlot   (a0 : Nat) (h : xH) : Option (Int32 × xH) :=
  if kc h a0 = 0 then
  bd (fX0_latest a0 h) (fun w4 g2 =>
  if kc g2 (hR h a0 4) = 8 then
  if ix w4 (kl g2 (hR h a0 4)) then
  some ((hI g2 (hR h a0 4) w4.toNatClampNeg), g2)
  else none
  else none)
  else none
theorem pX0_latestSlot_e    (a0 : Nat) (h : xH) : S emI kX0_latestSlot h 0 [(0, .ref a0)] [] h (fX0_latestSlot  a0 h) := by
  unfold fX0_latestSlot
  refine s_aload_n (pc := 0) (k0 := 0) (i := 0) rfl 0 rfl (by decide +kernel) ?_
  refine S_gd (fun c1 => ?_)
  refine s_getR (pc := 1) (k := 4) c1 ft_X0_25 rfl (by decide +kernel) ?_
  refine s_aload_n (pc := 4) (k0 := 0) (i := 0) rfl 0 rfl (by decide +kernel) ?_
  refine s_cVi (pc := 5) [] (tX0_latest a0 h) c1 cw_X0_41 rfl ⟨⟨Nat.le_of_ble_eq_true rfl, Nat.le_of_ble_eq_true rfl⟩, Nat.le_of_ble_eq_true rfl⟩ rfl (by decide +kernel) (fun w4 g2 e3 => ?_)
  refine S_gd (fun c5 => ?_)
  refine S_gd (fun c6 => ?_)
  refine s_iald (pc := 8) c5 c6 (by decide +kernel) ?_
  exact s_iret (pc := 9) rfl (by decide +kernel)
theorem tX0_latestSlot (a0 : Nat) (h : xH) : Ct yX0_latestSlot kX0_latestSlot emI [.ref a0] h (fX0_latestSlot a0 h) := Ct_of (by decide +kernel) rfl rfl rfl (Nat.le_of_ble_eq_true rfl) rfl (pX0_latestSlot_e a0 h)
def fX0_takeBack   (a0 : Nat) (a1 : Nat) (h : xH) : Option (Nat × xH) :=
  if kc h a0 = 0 then
  bd (fX0_latest a0 h) (fun w4 g2 =>
  if kc g2 (hR g2 a0 5) = 12 then
  if ix w4 (kl g2 (hR g2 a0 5)) then
  lt (hR g2 (hR g2 a0 5) w4.toNatClampNeg) (fun v8 =>
  if kc g2 a1 = 4 then
  lt (sR g2 (hR g2 a0 5) w4.toNatClampNeg a1) (fun g10 =>
  if kc g10 (hR g10 a0 3) = 8 then
  if ix w4 (kl g10 (hR g10 a0 3)) then
  lt (sI g10 a0 1 (hI g10 (hR g10 a0 3) w4.toNatClampNeg)) (fun g15 =>
  lt (sI g15 a0 2 w4) (fun g18 =>
  bd (fJ9_max_7cf53 ((hI g18 a0 0) - (1 : Int32)) (0 : Int32) g18) (fun w23 g21 =>
  lt (sI g21 a0 0 w23) (fun g25 =>
  some (v8, g25)))))
  else none
  else none)
  else none)
  else none
  else none)
  else none
theorem pX0_takeBack_e    (a0 : Nat) (a1 : Nat) (h : xH) : S emR kX0_takeBack h 0 [(0, .ref a0), (1, .ref a1)] [] h (fX0_takeBack  a0 a1 h) := by
  unfold fX0_takeBack
  refine s_aload_n (pc := 0) (k0 := 0) (i := 0) rfl 0 rfl (by decide +kernel) ?_
  refine S_gd (fun c1 => ?_)
  refine s_cVi (pc := 1) [] (tX0_latest a0 h) c1 cw_X0_41 rfl ⟨⟨Nat.le_of_ble_eq_true rfl, Nat.le_of_ble_eq_true rfl⟩, Nat.le_of_ble_eq_true rfl⟩ rfl (by decide +kernel) (fun w4 g2 e3 => ?_)
  refine s_istore_n (pc := 4) (L' := [(2, .int w4), (0, .ref a0), (1, .ref a1)]) (k0 := 2) (i := 2) rfl (by decide) rfl (by decide +kernel) ?_
  refine s_aload_n (pc := 5) (k0 := 0) (i := 0) rfl 1 rfl (by decide +kernel) ?_
  have c5 := kp e3 c1 (by decide)
  refine s_getR (pc := 6) (k := 5) c5 ft_X0_30 rfl (by decide +kernel) ?_
  refine s_iload_n (pc := 9) (k0 := 2) (i := 2) rfl 0 rfl (by decide +kernel) ?_
  refine S_gd (fun c6 => ?_)
  refine S_gd (fun c7 => ?_)
  refine s_aald (pc := 10) c6 c7 (by decide +kernel) ?_
  refine s_nmA (fun v8 => ?_)
  refine s_astore_n (pc := 11) (L' := [(3, .ref v8), (2, .int w4), (0, .ref a0), (1, .ref a1)]) (k0 := 3) (i := 3) rfl (by decide) rfl (by decide +kernel) ?_
  refine s_aload_n (pc := 12) (k0 := 0) (i := 0) rfl 2 rfl (by decide +kernel) ?_
  refine s_getR (pc := 13) (k := 5) c5 ft_X0_30 rfl (by decide +kernel) ?_
  refine s_iload_n (pc := 16) (k0 := 2) (i := 2) rfl 1 rfl (by decide +kernel) ?_
  refine s_aload_n (pc := 17) (k0 := 1) (i := 1) rfl 3 rfl (by decide +kernel) ?_
  refine S_gd (fun c9 => ?_)
  refine s_aast (pc := 18) c9 c6 c7 (by decide +kernel) ?_
  refine s_nmH (o := g2) rfl (fun g10 e11 => ?_)
  refine s_aload_n (pc := 19) (k0 := 0) (i := 0) rfl 2 rfl (by decide +kernel) ?_
  refine s_aload_n (pc := 20) (k0 := 0) (i := 0) rfl 2 rfl (by decide +kernel) ?_
  have c12 := kp e11 c5 (by decide)
  refine s_getR (pc := 21) (k := 3) c12 ft_X0_21 rfl (by decide +kernel) ?_
  refine s_iload_n (pc := 24) (k0 := 2) (i := 2) rfl 1 rfl (by decide +kernel) ?_
  refine S_gd (fun c13 => ?_)
  refine S_gd (fun c14 => ?_)
  refine s_iald (pc := 25) c13 c14 (by decide +kernel) ?_
  refine s_putI (pc := 26) (k := 1) c12 ft_X0_15 (fw_0_1 _ _) rfl rfl (by decide +kernel) ?_
  refine s_nmH (o := g10) rfl (fun g15 e16 => ?_)
  refine s_aload_n (pc := 29) (k0 := 0) (i := 0) rfl 2 rfl (by decide +kernel) ?_
  refine s_iload_n (pc := 30) (k0 := 2) (i := 2) rfl 1 rfl (by decide +kernel) ?_
  have c17 := kp e16 c12 (by decide)
  refine s_putI (pc := 31) (k := 2) c17 ft_X0_18 (fw_0_2 _ _) rfl rfl (by decide +kernel) ?_
  refine s_nmH (o := g15) rfl (fun g18 e19 => ?_)
  refine s_aload_n (pc := 34) (k0 := 0) (i := 0) rfl 2 rfl (by decide +kernel) ?_
  refine s_aload_n (pc := 35) (k0 := 0) (i := 0) rfl 2 rfl (by decide +kernel) ?_
  have c20 := kp e19 c17 (by decide)
  refine s_getI (pc := 36) (k := 0) c20 ft_X0_9 rfl (by decide +kernel) ?_
  refine s_iconst (pc := 39) (n := 1) (v := (1 : Int32)) (by decide) (by decide +kernel) ?_
  refine s_isub (pc := 40) (by decide +kernel) ?_
  refine s_iconst (pc := 41) (n := 0) (v := (0 : Int32)) (by decide) (by decide +kernel) ?_
  refine s_cSi (pc := 42) [.int ((hI g18 a0 0) - (1 : Int32)), .int (0 : Int32)] (tJ9_max_7cf53 ((hI g18 a0 0) - (1 : Int32)) (0 : Int32) g18) cw_X0_45 rfl ⟨⟨Nat.le_of_ble_eq_true rfl, Nat.le_of_ble_eq_true rfl⟩, Nat.le_of_ble_eq_true rfl⟩ rfl (by decide +kernel) (fun w23 g21 e22 => ?_)
  have c24 := kp e22 c20 (by decide)
  refine s_putI (pc := 45) (k := 0) c24 ft_X0_9 (fw_0_0 _ _) rfl rfl (by decide +kernel) ?_
  refine s_nmH (o := g21) rfl (fun g25 e26 => ?_)
  refine s_aload_n (pc := 48) (k0 := 3) (i := 3) rfl 0 rfl (by decide +kernel) ?_
  exact s_aret (pc := 49) rfl rfl (by decide +kernel)
theorem tX0_takeBack (a0 : Nat) (a1 : Nat) (h : xH) : Ct yX0_takeBack kX0_takeBack emR [.ref a0, .ref a1] h (fX0_takeBack a0 a1 h) := Ct_of (by decide +kernel) rfl rfl rfl (Nat.le_of_ble_eq_true rfl) rfl (pX0_takeBack_e a0 a1 h)
def fX0_forget   (a0 : Nat) (h : xH) : Option (Unit × xH) :=
  if kc h a0 = 0 then
  lt (sI h a0 0 (0 : Int32)) (fun g2 =>
  some ((), g2))
  else none
theorem pX0_forget_e    (a0 : Nat) (h : xH) : S emV kX0_forget h 0 [(0, .ref a0)] [] h (fX0_forget  a0 h) := by
  unfold fX0_forget
  refine s_aload_n (pc := 0) (k0 := 0) (i := 0) rfl 0 rfl (by decide +kernel) ?_
  refine s_iconst (pc := 1) (n := 0) (v := (0 : Int32)) (by decide) (by decide +kernel) ?_
  refine S_gd (fun c1 => ?_)
  refine s_putI (pc := 2) (k := 0) c1 ft_X0_9 (fw_0_0 _ _) rfl rfl (by decide +kernel) ?_
  refine s_nmH (o := h) rfl (fun g2 e3 => ?_)
  exact s_vret (pc := 5) rfl (by decide +kernel)
theorem tX0_forget (a0 : Nat) (h : xH) : Ct yX0_forget kX0_forget emV [.ref a0] h (fX0_forget a0 h) := Ct_of (by decide +kernel) rfl rfl rfl (Nat.le_of_ble_eq_true rfl) rfl (pX0_forget_e a0 h)
def fX3_start   (a0 : Nat) (h : xH) : Option (Unit × xH) :=
  if kc h a0 = 3 then
  lt (sI h a0 0 (0 : Int32)) (fun g2 =>
  lt (sI g2 a0 1 (0 : Int32)) (fun g5 =>
  lt (sI g5 a0 2 (0 : Int32)) (fun g8 =>
  some ((), g8))))
  else none
theorem pX3_start_e    (a0 : Nat) (h : xH) : S emV kX3_start h 0 [(0, .ref a0)] [] h (fX3_start  a0 h) := by
  unfold fX3_start
  refine s_aload_n (pc := 0) (k0 := 0) (i := 0) rfl 0 rfl (by decide +kernel) ?_
  refine s_iconst (pc := 1) (n := 0) (v := (0 : Int32)) (by decide) (by decide +kernel) ?_
  refine S_gd (fun c1 => ?_)
  refine s_putZ (pc := 2) (k := 0) (by decide) c1 ft_X3_7 (fw_3_0 _ _) rfl rfl (by decide +kernel) ?_
  refine s_nmH (o := h) rfl (fun g2 e3 => ?_)
  refine s_aload_n (pc := 5) (k0 := 0) (i := 0) rfl 0 rfl (by decide +kernel) ?_
  refine s_iconst (pc := 6) (n := 0) (v := (0 : Int32)) (by decide) (by decide +kernel) ?_
  have c4 := kp e3 c1 (by decide)
  refine s_putZ (pc := 7) (k := 1) (by decide) c4 ft_X3_13 (fw_3_1 _ _) rfl rfl (by decide +kernel) ?_
  refine s_nmH (o := g2) rfl (fun g5 e6 => ?_)
  refine s_aload_n (pc := 10) (k0 := 0) (i := 0) rfl 0 rfl (by decide +kernel) ?_
  refine s_iconst (pc := 11) (n := 0) (v := (0 : Int32)) (by decide) (by decide +kernel) ?_
  have c7 := kp e6 c4 (by decide)
  refine s_putZ (pc := 12) (k := 2) (by decide) c7 ft_X3_16 (fw_3_2 _ _) rfl rfl (by decide +kernel) ?_
  refine s_nmH (o := g5) rfl (fun g8 e9 => ?_)
  exact s_vret (pc := 15) rfl (by decide +kernel)
theorem tX3_start (a0 : Nat) (h : xH) : Ct yX3_start kX3_start emV [.ref a0] h (fX3_start a0 h) := Ct_of (by decide +kernel) rfl rfl rfl (Nat.le_of_ble_eq_true rfl) rfl (pX3_start_e a0 h)
def fX3_judge_b75  (s0 : Int32) (s1 : Nat)  (h : xH) : Option (Unit × xH) :=
  if s0 = 0 ∨ s0 = 1 then
  if kc h s1 = 3 then
  lt (sI h s1 2 s0) (fun g3 =>
  some ((), g3))
  else none
  else none
def fX3_judge_b70  (s0 : Nat)  (h : xH) : Option (Unit × xH) :=
  fX3_judge_b75 (1 : Int32) s0 h
def fX3_judge_b55  (s0 : Int32) (s1 : Nat) (a0 : Nat) (a1 : Int32) (h : xH) : Option (Unit × xH) :=
  if s0 = 0 ∨ s0 = 1 then
  if kc h s1 = 3 then
  lt (sI h s1 1 s0) (fun g3 =>
  if kc g3 a0 = 3 then
  if (hI g3 a0 2) = 0 then (
  if a1 ≤ 0 then (
  fX3_judge_b75 (0 : Int32) a0 g3)
  else (
  fX3_judge_b70 a0 g3))
  else (
  fX3_judge_b70 a0 g3)
  else none)
  else none
  else none
def fX3_judge_b50  (s0 : Nat) (a0 : Nat) (a1 : Int32) (h : xH) : Option (Unit × xH) :=
  fX3_judge_b55 (1 : Int32) s0 a0 a1 h
def fX3_judge   (a0 : Nat) (h : xH) : Option (Unit × xH) :=
  if kc h a0 = 3 then
  if kc h (hR h a0 3) = 2 then
  if (hI h (hR h a0 3) 0) = 0 then (
  some ((), h))
  else (
  if kc h (hR h a0 4) = 2 then
  if (hI h (hR h a0 4) 0) = 0 then (
  some ((), h))
  else (
  lt (sI h a0 0 (1 : Int32)) (fun g4 =>
  if kc g4 (hR g4 a0 3) = 2 then
  bd (fX2_orderTo (hR g4 a0 3) (hR g4 a0 4) g4) (fun w10 g8 =>
  if (hI g8 a0 1) = 0 then (
  if 0 ≤ w10 then (
  fX3_judge_b55 (0 : Int32) a0 a0 w10 g8)
  else (
  fX3_judge_b50 a0 a0 w10 g8))
  else (
  fX3_judge_b50 a0 a0 w10 g8))
  else none))
  else none)
  else none
  else none
theorem pX3_judge_b75 {h0 : xH}   (s0 : Int32) (s1 : Nat)  (h : xH) : S emV kX3_judge h0 75 [] [.int s0, .ref s1] h (fX3_judge_b75 s0 s1 h) := by
  unfold fX3_judge_b75
  refine S_gd (fun c1 => ?_)
  refine S_gd (fun c2 => ?_)
  refine s_putZ (pc := 75) (k := 2) c1 c2 ft_X3_16 (fw_3_2 _ _) rfl rfl (by decide +kernel) ?_
  refine s_nmH (o := h) rfl (fun g3 e4 => ?_)
  exact s_vret (pc := 78) rfl (by decide +kernel)
theorem pX3_judge_b70 {h0 : xH}   (s0 : Nat)  (h : xH) : S emV kX3_judge h0 70 [] [.ref s0] h (fX3_judge_b70 s0 h) := by
  unfold fX3_judge_b70
  refine s_iconst (pc := 70) (n := 1) (v := (1 : Int32)) (by decide) (by decide +kernel) ?_
  refine s_goto (pc := 71) (off := 4) 75 (by decide +kernel) (by decide) ?_
  exact pX3_judge_b75 (1 : Int32) s0 h
theorem pX3_judge_b55 {h0 : xH}   (s0 : Int32) (s1 : Nat) (a0 : Nat) (a1 : Int32) (h : xH) : S emV kX3_judge h0 55 [(0, .ref a0), (1, .int a1)] [.int s0, .ref s1] h (fX3_judge_b55 s0 s1 a0 a1 h) := by
  unfold fX3_judge_b55
  refine S_gd (fun c1 => ?_)
  refine S_gd (fun c2 => ?_)
  refine s_putZ (pc := 55) (k := 1) c1 c2 ft_X3_13 (fw_3_1 _ _) rfl rfl (by decide +kernel) ?_
  refine s_nmH (o := h) rfl (fun g3 e4 => ?_)
  refine s_aload_n (pc := 58) (k0 := 0) (i := 0) rfl 0 rfl (by decide +kernel) ?_
  refine s_aload_n (pc := 59) (k0 := 0) (i := 0) rfl 0 rfl (by decide +kernel) ?_
  refine S_gd (fun c5 => ?_)
  refine s_getI (pc := 60) (k := 2) c5 ft_X3_16 rfl (by decide +kernel) ?_
  refine s_if_ne (pc := 63) (off := 7) 70 (by decide +kernel) (by decide) (fun _ => ?_) (fun _ => ?_)
  · refine s_iload_n (pc := 66) (k0 := 1) (i := 1) rfl 1 rfl (by decide +kernel) ?_
    refine s_if_le (pc := 67) (off := 7) 74 (by decide +kernel) (by decide) (fun _ => ?_) (fun _ => ?_)
    · refine s_iconst (pc := 74) (n := 0) (v := (0 : Int32)) (by decide) (by decide +kernel) ?_
      refine S_sub [] rfl ?_
      exact pX3_judge_b75 (0 : Int32) a0 g3
    · refine S_sub [] rfl ?_
      exact pX3_judge_b70 a0 g3
  · refine S_sub [] rfl ?_
    exact pX3_judge_b70 a0 g3
theorem pX3_judge_b50 {h0 : xH}   (s0 : Nat) (a0 : Nat) (a1 : Int32) (h : xH) : S emV kX3_judge h0 50 [(0, .ref a0), (1, .int a1)] [.ref s0] h (fX3_judge_b50 s0 a0 a1 h) := by
  unfold fX3_judge_b50
  refine s_iconst (pc := 50) (n := 1) (v := (1 : Int32)) (by decide) (by decide +kernel) ?_
  refine s_goto (pc := 51) (off := 4) 55 (by decide +kernel) (by decide) ?_
  exact pX3_judge_b55 (1 : Int32) s0 a0 a1 h
theorem pX3_judge_e    (a0 : Nat) (h : xH) : S emV kX3_judge h 0 [(0, .ref a0)] [] h (fX3_judge  a0 h) := by
  unfold fX3_judge
  refine s_aload_n (pc := 0) (k0 := 0) (i := 0) rfl 0 rfl (by decide +kernel) ?_
  refine S_gd (fun c1 => ?_)
  refine s_getR (pc := 1) (k := 3) c1 ft_X3_22 rfl (by decide +kernel) ?_
  refine S_gd (fun c2 => ?_)
  refine s_getI (pc := 4) (k := 0) c2 ft_X3_52 rfl (by decide +kernel) ?_
  refine s_if_eq (pc := 7) (off := 13) 20 (by decide +kernel) (by decide) (fun _ => ?_) (fun _ => ?_)
  · exact s_vret (pc := 20) rfl (by decide +kernel)
  · refine s_aload_n (pc := 10) (k0 := 0) (i := 0) rfl 0 rfl (by decide +kernel) ?_
    refine s_getR (pc := 11) (k := 4) c1 ft_X3_26 rfl (by decide +kernel) ?_
    refine S_gd (fun c3 => ?_)
    refine s_getI (pc := 14) (k := 0) c3 ft_X3_52 rfl (by decide +kernel) ?_
    refine s_if_ne (pc := 17) (off := 4) 21 (by decide +kernel) (by decide) (fun _ => ?_) (fun _ => ?_)
    · exact s_vret (pc := 20) rfl (by decide +kernel)
    · refine s_aload_n (pc := 21) (k0 := 0) (i := 0) rfl 0 rfl (by decide +kernel) ?_
      refine s_iconst (pc := 22) (n := 1) (v := (1 : Int32)) (by decide) (by decide +kernel) ?_
      refine s_putZ (pc := 23) (k := 0) (by decide) c1 ft_X3_7 (fw_3_0 _ _) rfl rfl (by decide +kernel) ?_
      refine s_nmH (o := h) rfl (fun g4 e5 => ?_)
      refine s_aload_n (pc := 26) (k0 := 0) (i := 0) rfl 0 rfl (by decide +kernel) ?_
      have c6 := kp e5 c1 (by decide)
      refine s_getR (pc := 27) (k := 3) c6 ft_X3_22 rfl (by decide +kernel) ?_
      refine s_aload_n (pc := 30) (k0 := 0) (i := 0) rfl 0 rfl (by decide +kernel) ?_
      refine s_getR (pc := 31) (k := 4) c6 ft_X3_26 rfl (by decide +kernel) ?_
      refine S_gd (fun c7 => ?_)
      refine s_cVi (pc := 34) [.ref (hR g4 a0 4)] (tX2_orderTo (hR g4 a0 3) (hR g4 a0 4) g4) c7 cw_X3_55 rfl ⟨⟨Nat.le_of_ble_eq_true rfl, Nat.le_of_ble_eq_true rfl⟩, Nat.le_of_ble_eq_true rfl⟩ rfl (by decide +kernel) (fun w10 g8 e9 => ?_)
      refine s_istore_n (pc := 37) (L' := [(1, .int w10), (0, .ref a0)]) (k0 := 1) (i := 1) rfl (by decide) rfl (by decide +kernel) ?_
      refine s_aload_n (pc := 38) (k0 := 0) (i := 0) rfl 1 rfl (by decide +kernel) ?_
      refine s_aload_n (pc := 39) (k0 := 0) (i := 0) rfl 1 rfl (by decide +kernel) ?_
      have c11 := kp e9 c6 (by decide)
      refine s_getI (pc := 40) (k := 1) c11 ft_X3_13 rfl (by decide +kernel) ?_
      refine s_if_ne (pc := 43) (off := 7) 50 (by decide +kernel) (by decide) (fun _ => ?_) (fun _ => ?_)
      · refine s_iload_n (pc := 46) (k0 := 1) (i := 1) rfl 0 rfl (by decide +kernel) ?_
        refine s_if_ge (pc := 47) (off := 7) 54 (by decide +kernel) (by decide) (fun _ => ?_) (fun _ => ?_)
        · refine s_iconst (pc := 54) (n := 0) (v := (0 : Int32)) (by decide) (by decide +kernel) ?_
          refine S_sub [1, 0] rfl ?_
          exact pX3_judge_b55 (0 : Int32) a0 a0 w10 g8
        · refine S_sub [1, 0] rfl ?_
          exact pX3_judge_b50 a0 a0 w10 g8
      · refine S_sub [1, 0] rfl ?_
        exact pX3_judge_b50 a0 a0 w10 g8
theorem tX3_judge (a0 : Nat) (h : xH) : Ct yX3_judge kX3_judge emV [.ref a0] h (fX3_judge a0 h) := Ct_of (by decide +kernel) rfl rfl rfl (Nat.le_of_ble_eq_true rfl) rfl (pX3_judge_e a0 h)
def fX3_meetAtKnotsOf_b3 (r3 : Nat → Nat → Nat → Nat → Int32 → xH → Option (Unit × xH))  (a0 : Nat) (a1 : Nat) (a2 : Nat) (a3 : Nat) (a4 : Int32) (h : xH) : Option (Unit × xH) :=
  if kc h a1 = 4 then
  if (hI h a1 0) ≤ a4 then (
  some ((), h))
  else (
  bd (fX4_xAt a1 a4 h) (fun w4 g2 =>
  if kc g2 a0 = 3 then
  if kc g2 a2 = 4 then
  bd (fX4_valueAt a2 w4 (hR g2 a0 3) g2) (fun _ g7 =>
  if kc g7 a3 = 4 then
  bd (fX4_valueAt a3 w4 (hR g7 a0 4) g7) (fun _ g11 =>
  bd (fX3_judge a0 g11) (fun _ g14 =>
  bd (fX4_leftEndAt a2 w4 (hR g14 a0 3) g14) (fun _ g18 =>
  bd (fX4_leftEndAt a3 w4 (hR g18 a0 4) g18) (fun _ g22 =>
  bd (fX3_judge a0 g22) (fun _ g25 =>
  bd (fX4_rightBeginAt a2 w4 (hR g25 a0 3) g25) (fun _ g29 =>
  bd (fX4_rightBeginAt a3 w4 (hR g29 a0 4) g29) (fun _ g33 =>
  bd (fX3_judge a0 g33) (fun _ g36 =>
  lt (a4 + (1 : Int32)) (fun v38 =>
  r3 a0 a1 a2 a3 v38 g36)))))))))
  else none)
  else none
  else none))
  else none
def fX3_meetAtKnotsOf_l3  : Nat → Nat → Nat → Nat → Nat → Int32 → xH → Option (Unit × xH)
  | 0 => fun _ _ _ _ _ _ => none
  | k + 1 => fX3_meetAtKnotsOf_b3 (fX3_meetAtKnotsOf_l3  k)
def fX3_meetAtKnotsOf   (a0 : Nat) (a1 : Nat) (a2 : Nat) (a3 : Nat) (h : xH) : Option (Unit × xH) :=
  lt (0 : Int32) (fun v1 =>
  fX3_meetAtKnotsOf_l3 FU a0 a1 a2 a3 v1 h)
theorem pX3_meetAtKnotsOf_b3 {h0 : xH} {r3 : Nat → Nat → Nat → Nat → Int32 → xH → Option (Unit × xH)} (hr3 : ∀  (a0 : Nat) (a1 : Nat) (a2 : Nat) (a3 : Nat) (a4 : Int32) (g : xH), S emV kX3_meetAtKnotsOf h0 3 [(0, .ref a0), (1, .ref a1), (2, .ref a2), (3, .ref a3), (4, .int a4)] [] g (r3  a0 a1 a2 a3 a4 g))  (a0 : Nat) (a1 : Nat) (a2 : Nat) (a3 : Nat) (a4 : Int32) (h : xH) : S emV kX3_meetAtKnotsOf h0 3 [(0, .ref a0), (1, .ref a1), (2, .ref a2), (3, .ref a3), (4, .int a4)] [] h (fX3_meetAtKnotsOf_b3 r3 a0 a1 a2 a3 a4 h) := by
  unfold fX3_meetAtKnotsOf_b3
  refine s_iload (pc := 3) (i := 4) 4 rfl (by decide +kernel) ?_
  refine s_aload_n (pc := 5) (k0 := 1) (i := 1) rfl 1 rfl (by decide +kernel) ?_
  refine S_gd (fun c1 => ?_)
  refine s_getI (pc := 6) (k := 0) c1 ft_X3_29 rfl (by decide +kernel) ?_
  refine s_icmp_ge (pc := 9) (off := 89) 98 (by decide +kernel) (by decide) (fun _ => ?_) (fun _ => ?_)
  · exact s_vret (pc := 98) rfl (by decide +kernel)
  · refine s_aload_n (pc := 12) (k0 := 1) (i := 1) rfl 1 rfl (by decide +kernel) ?_
    refine s_iload (pc := 13) (i := 4) 4 rfl (by decide +kernel) ?_
    refine s_cVi (pc := 15) [.int a4] (tX4_xAt a1 a4 h) c1 cw_X3_35 rfl ⟨⟨Nat.le_of_ble_eq_true rfl, Nat.le_of_ble_eq_true rfl⟩, Nat.le_of_ble_eq_true rfl⟩ rfl (by decide +kernel) (fun w4 g2 e3 => ?_)
    refine s_istore (pc := 18) (L' := [(5, .int w4), (0, .ref a0), (1, .ref a1), (2, .ref a2), (3, .ref a3), (4, .int a4)]) (i := 5) (by decide) rfl (by decide +kernel) ?_
    refine s_aload_n (pc := 20) (k0 := 2) (i := 2) rfl 3 rfl (by decide +kernel) ?_
    refine s_iload (pc := 21) (i := 5) 0 rfl (by decide +kernel) ?_
    refine s_aload_n (pc := 23) (k0 := 0) (i := 0) rfl 1 rfl (by decide +kernel) ?_
    refine S_gd (fun c5 => ?_)
    refine s_getR (pc := 24) (k := 3) c5 ft_X3_22 rfl (by decide +kernel) ?_
    refine S_gd (fun c6 => ?_)
    refine s_cVv (pc := 27) [.int w4, .ref (hR g2 a0 3)] (tX4_valueAt a2 w4 (hR g2 a0 3) g2) c6 cw_X3_39 rfl ⟨⟨Nat.le_of_ble_eq_true rfl, Nat.le_of_ble_eq_true rfl⟩, Nat.le_of_ble_eq_true rfl⟩ rfl (by decide +kernel) (fun _ g7 e8 => ?_)
    refine s_aload_n (pc := 30) (k0 := 3) (i := 3) rfl 4 rfl (by decide +kernel) ?_
    refine s_iload (pc := 31) (i := 5) 0 rfl (by decide +kernel) ?_
    refine s_aload_n (pc := 33) (k0 := 0) (i := 0) rfl 1 rfl (by decide +kernel) ?_
    have c9 := kp e8 c5 (by decide)
    refine s_getR (pc := 34) (k := 4) c9 ft_X3_26 rfl (by decide +kernel) ?_
    refine S_gd (fun c10 => ?_)
    refine s_cVv (pc := 37) [.int w4, .ref (hR g7 a0 4)] (tX4_valueAt a3 w4 (hR g7 a0 4) g7) c10 cw_X3_39 rfl ⟨⟨Nat.le_of_ble_eq_true rfl, Nat.le_of_ble_eq_true rfl⟩, Nat.le_of_ble_eq_true rfl⟩ rfl (by decide +kernel) (fun _ g11 e12 => ?_)
    refine s_aload_n (pc := 40) (k0 := 0) (i := 0) rfl 1 rfl (by decide +kernel) ?_
    have c13 := kp e12 c9 (by decide)
    refine s_cVv (pc := 41) [] (tX3_judge a0 g11) c13 cw_X3_43 rfl ⟨⟨Nat.le_of_ble_eq_true rfl, Nat.le_of_ble_eq_true rfl⟩, Nat.le_of_ble_eq_true rfl⟩ rfl (by decide +kernel) (fun _ g14 e15 => ?_)
    refine s_aload_n (pc := 44) (k0 := 2) (i := 2) rfl 3 rfl (by decide +kernel) ?_
    refine s_iload (pc := 45) (i := 5) 0 rfl (by decide +kernel) ?_
    refine s_aload_n (pc := 47) (k0 := 0) (i := 0) rfl 1 rfl (by decide +kernel) ?_
    have c16 := kp e15 c13 (by decide)
    refine s_getR (pc := 48) (k := 3) c16 ft_X3_22 rfl (by decide +kernel) ?_
    have c17 := kp (Le.tr e8 (Le.tr e12 e15)) c6 (by decide)
    refine s_cVv (pc := 51) [.int w4, .ref (hR g14 a0 3)] (tX4_leftEndAt a2 w4 (hR g14 a0 3) g14) c17 cw_X3_46 rfl ⟨⟨Nat.le_of_ble_eq_true rfl, Nat.le_of_ble_eq_true rfl⟩, Nat.le_of_ble_eq_true rfl⟩ rfl (by decide +kernel) (fun _ g18 e19 => ?_)
    refine s_aload_n (pc := 54) (k0 := 3) (i := 3) rfl 4 rfl (by decide +kernel) ?_
    refine s_iload (pc := 55) (i := 5) 0 rfl (by decide +kernel) ?_
    refine s_aload_n (pc := 57) (k0 := 0) (i := 0) rfl 1 rfl (by decide +kernel) ?_
    have c20 := kp e19 c16 (by decide)
    refine s_getR (pc := 58) (k := 4) c20 ft_X3_26 rfl (by decide +kernel) ?_
    have c21 := kp (Le.tr e12 (Le.tr e15 e19)) c10 (by decide)
    refine s_cVv (pc := 61) [.int w4, .ref (hR g18 a0 4)] (tX4_leftEndAt a3 w4 (hR g18 a0 4) g18) c21 cw_X3_46 rfl ⟨⟨Nat.le_of_ble_eq_true rfl, Nat.le_of_ble_eq_true rfl⟩, Nat.le_of_ble_eq_true rfl⟩ rfl (by decide +kernel) (fun _ g22 e23 => ?_)
    refine s_aload_n (pc := 64) (k0 := 0) (i := 0) rfl 1 rfl (by decide +kernel) ?_
    have c24 := kp e23 c20 (by decide)
    refine s_cVv (pc := 65) [] (tX3_judge a0 g22) c24 cw_X3_43 rfl ⟨⟨Nat.le_of_ble_eq_true rfl, Nat.le_of_ble_eq_true rfl⟩, Nat.le_of_ble_eq_true rfl⟩ rfl (by decide +kernel) (fun _ g25 e26 => ?_)
    refine s_aload_n (pc := 68) (k0 := 2) (i := 2) rfl 3 rfl (by decide +kernel) ?_
    refine s_iload (pc := 69) (i := 5) 0 rfl (by decide +kernel) ?_
    refine s_aload_n (pc := 71) (k0 := 0) (i := 0) rfl 1 rfl (by decide +kernel) ?_
    have c27 := kp e26 c24 (by decide)
    refine s_getR (pc := 72) (k := 3) c27 ft_X3_22 rfl (by decide +kernel) ?_
    have c28 := kp (Le.tr e19 (Le.tr e23 e26)) c17 (by decide)
    refine s_cVv (pc := 75) [.int w4, .ref (hR g25 a0 3)] (tX4_rightBeginAt a2 w4 (hR g25 a0 3) g25) c28 cw_X3_49 rfl ⟨⟨Nat.le_of_ble_eq_true rfl, Nat.le_of_ble_eq_true rfl⟩, Nat.le_of_ble_eq_true rfl⟩ rfl (by decide +kernel) (fun _ g29 e30 => ?_)
    refine s_aload_n (pc := 78) (k0 := 3) (i := 3) rfl 4 rfl (by decide +kernel) ?_
    refine s_iload (pc := 79) (i := 5) 0 rfl (by decide +kernel) ?_
    refine s_aload_n (pc := 81) (k0 := 0) (i := 0) rfl 1 rfl (by decide +kernel) ?_
    have c31 := kp e30 c27 (by decide)
    refine s_getR (pc := 82) (k := 4) c31 ft_X3_26 rfl (by decide +kernel) ?_
    have c32 := kp (Le.tr e23 (Le.tr e26 e30)) c21 (by decide)
    refine s_cVv (pc := 85) [.int w4, .ref (hR g29 a0 4)] (tX4_rightBeginAt a3 w4 (hR g29 a0 4) g29) c32 cw_X3_49 rfl ⟨⟨Nat.le_of_ble_eq_true rfl, Nat.le_of_ble_eq_true rfl⟩, Nat.le_of_ble_eq_true rfl⟩ rfl (by decide +kernel) (fun _ g33 e34 => ?_)
    refine s_aload_n (pc := 88) (k0 := 0) (i := 0) rfl 1 rfl (by decide +kernel) ?_
    have c35 := kp e34 c31 (by decide)
    refine s_cVv (pc := 89) [] (tX3_judge a0 g33) c35 cw_X3_43 rfl ⟨⟨Nat.le_of_ble_eq_true rfl, Nat.le_of_ble_eq_true rfl⟩, Nat.le_of_ble_eq_true rfl⟩ rfl (by decide +kernel) (fun _ g36 e37 => ?_)
    refine s_iinc (pc := 92) (L' := [(4, .int (a4 + (1 : Int32))), (5, .int w4), (0, .ref a0), (1, .ref a1), (2, .ref a2), (3, .ref a3)]) (i := 4) (n := 1) 5 rfl rfl (by decide) rfl (by decide +kernel) ?_
    refine s_nmI0 (e := a4 + (1 : Int32)) (L := fun v38 => [(4, .int v38), (5, .int w4), (0, .ref a0), (1, .ref a1), (2, .ref a2), (3, .ref a3)]) (fun v38 => ?_)
    refine s_goto (pc := 95) (off := -92) 3 (by decide +kernel) (by decide) ?_
    refine S_sub [2, 3, 4, 5, 0] rfl ?_
    exact hr3 a0 a1 a2 a3 v38 g36
theorem pX3_meetAtKnotsOf_l3 {h0 : xH}   : ∀ (k : Nat)  (a0 : Nat) (a1 : Nat) (a2 : Nat) (a3 : Nat) (a4 : Int32) (h : xH), S emV kX3_meetAtKnotsOf h0 3 [(0, .ref a0), (1, .ref a1), (2, .ref a2), (3, .ref a3), (4, .int a4)] [] h (fX3_meetAtKnotsOf_l3  k  a0 a1 a2 a3 a4 h) := by
  intro k
  induction k with
  | zero => intros; exact S_none
  | succ k ih => intro  a0 a1 a2 a3 a4 h; exact pX3_meetAtKnotsOf_b3 ih  a0 a1 a2 a3 a4 h
theorem pX3_meetAtKnotsOf_e    (a0 : Nat) (a1 : Nat) (a2 : Nat) (a3 : Nat) (h : xH) : S emV kX3_meetAtKnotsOf h 0 [(0, .ref a0), (1, .ref a1), (2, .ref a2), (3, .ref a3)] [] h (fX3_meetAtKnotsOf  a0 a1 a2 a3 h) := by
  unfold fX3_meetAtKnotsOf
  refine s_iconst (pc := 0) (n := 0) (v := (0 : Int32)) (by decide) (by decide +kernel) ?_
  refine s_nmI (fun v1 => ?_)
  refine s_istore (pc := 1) (L' := [(4, .int v1), (0, .ref a0), (1, .ref a1), (2, .ref a2), (3, .ref a3)]) (i := 4) (by decide) rfl (by decide +kernel) ?_
  refine S_sub [1, 2, 3, 4, 0] rfl ?_
  exact pX3_meetAtKnotsOf_l3 FU a0 a1 a2 a3 v1 h
theorem tX3_meetAtKnotsOf (a0 : Nat) (a1 : Nat) (a2 : Nat) (a3 : Nat) (h : xH) : Ct yX3_meetAtKnotsOf kX3_meetAtKnotsOf emV [.ref a0, .ref a1, .ref a2, .ref a3] h (fX3_meetAtKnotsOf a0 a1 a2 a3 h) := Ct_of (by decide +kernel) rfl rfl rfl (Nat.le_of_ble_eq_true rfl) rfl (pX3_meetAtKnotsOf_e a0 a1 a2 a3 h)
def fX3_verdict_b25   (a0 : Nat) (h : xH) : Option (Int32 × xH) :=
  if kc h a0 = 3 then
  if (hI h a0 1) = 0 then (
  if (hI h a0 2) = 0 then (
  some ((0 : Int32), h))
  else (
  some ((1 : Int32), h)))
  else (
  some ((-1 : Int32), h))
  else none
def fX3_verdict   (a0 : Nat) (h : xH) : Option (Int32 × xH) :=
  if kc h a0 = 3 then
  if (hI h a0 0) = 0 then (
  some ((3 : Int32), h))
  else (
  if (hI h a0 1) = 0 then (
  fX3_verdict_b25 a0 h)
  else (
  if (hI h a0 2) = 0 then (
  fX3_verdict_b25 a0 h)
  else (
  some ((2 : Int32), h))))
  else none
theorem pX3_verdict_b25 {h0 : xH}    (a0 : Nat) (h : xH) : S emI kX3_verdict h0 25 [(0, .ref a0)] [] h (fX3_verdict_b25  a0 h) := by
  unfold fX3_verdict_b25
  refine s_aload_n (pc := 25) (k0 := 0) (i := 0) rfl 0 rfl (by decide +kernel) ?_
  refine S_gd (fun c1 => ?_)
  refine s_getI (pc := 26) (k := 1) c1 ft_X3_13 rfl (by decide +kernel) ?_
  refine s_if_eq (pc := 29) (off := 5) 34 (by decide +kernel) (by decide) (fun _ => ?_) (fun _ => ?_)
  · refine s_aload_n (pc := 34) (k0 := 0) (i := 0) rfl 0 rfl (by decide +kernel) ?_
    refine s_getI (pc := 35) (k := 2) c1 ft_X3_16 rfl (by decide +kernel) ?_
    refine s_if_eq (pc := 38) (off := 7) 45 (by decide +kernel) (by decide) (fun _ => ?_) (fun _ => ?_)
    · refine s_iconst (pc := 45) (n := 0) (v := (0 : Int32)) (by decide) (by decide +kernel) ?_
      exact s_iret (pc := 46) rfl (by decide +kernel)
    · refine s_iconst (pc := 41) (n := 1) (v := (1 : Int32)) (by decide) (by decide +kernel) ?_
      refine s_goto (pc := 42) (off := 4) 46 (by decide +kernel) (by decide) ?_
      exact s_iret (pc := 46) rfl (by decide +kernel)
  · refine s_iconst (pc := 32) (n := -1) (v := (-1 : Int32)) (by decide) (by decide +kernel) ?_
    exact s_iret (pc := 33) rfl (by decide +kernel)
theorem pX3_verdict_e    (a0 : Nat) (h : xH) : S emI kX3_verdict h 0 [(0, .ref a0)] [] h (fX3_verdict  a0 h) := by
  unfold fX3_verdict
  refine s_aload_n (pc := 0) (k0 := 0) (i := 0) rfl 0 rfl (by decide +kernel) ?_
  refine S_gd (fun c1 => ?_)
  refine s_getI (pc := 1) (k := 0) c1 ft_X3_7 rfl (by decide +kernel) ?_
  refine s_if_ne (pc := 4) (off := 5) 9 (by decide +kernel) (by decide) (fun _ => ?_) (fun _ => ?_)
  · refine s_iconst (pc := 7) (n := 3) (v := (3 : Int32)) (by decide) (by decide +kernel) ?_
    exact s_iret (pc := 8) rfl (by decide +kernel)
  · refine s_aload_n (pc := 9) (k0 := 0) (i := 0) rfl 0 rfl (by decide +kernel) ?_
    refine s_getI (pc := 10) (k := 1) c1 ft_X3_13 rfl (by decide +kernel) ?_
    refine s_if_eq (pc := 13) (off := 12) 25 (by decide +kernel) (by decide) (fun _ => ?_) (fun _ => ?_)
    · exact pX3_verdict_b25 a0 h
    · refine s_aload_n (pc := 16) (k0 := 0) (i := 0) rfl 0 rfl (by decide +kernel) ?_
      refine s_getI (pc := 17) (k := 2) c1 ft_X3_16 rfl (by decide +kernel) ?_
      refine s_if_eq (pc := 20) (off := 5) 25 (by decide +kernel) (by decide) (fun _ => ?_) (fun _ => ?_)
      · exact pX3_verdict_b25 a0 h
      · refine s_iconst (pc := 23) (n := 2) (v := (2 : Int32)) (by decide) (by decide +kernel) ?_
        exact s_iret (pc := 24) rfl (by decide +kernel)
theorem tX3_verdict (a0 : Nat) (h : xH) : Ct yX3_verdict kX3_verdict emI [.ref a0] h (fX3_verdict a0 h) := Ct_of (by decide +kernel) rfl rfl rfl (Nat.le_of_ble_eq_true rfl) rfl (pX3_verdict_e a0 h)
