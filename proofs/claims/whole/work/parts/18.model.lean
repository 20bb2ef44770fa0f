def fX7_bringPaper_b22 (r12 : Nat → Int32 → Int32 → xH → Option (Unit × xH)) (r22 : Nat → Int32 → Int32 → Int32 → xH → Option (Unit × xH))  (a0 : Nat) (a1 : Int32) (a2 : Int32) (a3 : Int32) (h : xH) : Option (Unit × xH) :=
  if (4 : Int32) ≤ a3 then (
  if kc h a0 = 7 then
  if kc h (hR h a0 10) = 10 then
  if ix (((1600 : Int32) * a1) + a2) (kl h (hR h a0 10)) then
  if (hI h (hR h a0 10) (((1600 : Int32) * a1) + a2).toNatClampNeg) = 0 ∨ (hI h (hR h a0 10) (((1600 : Int32) * a1) + a2).toNatClampNeg) = 1 then
  if kc h (hR h a0 6) = 10 then
  if ix a2 (kl h (hR h a0 6)) then
  lt (sI h (hR h a0 6) a2.toNatClampNeg (hI h (hR h a0 10) (((1600 : Int32) * a1) + a2).toNatClampNeg)) (fun g7 =>
  lt (a2 + (1 : Int32)) (fun v9 =>
  r12 a0 a1 v9 g7))
  else none
  else none
  else none
  else none
  else none
  else none)
  else (
  if kc h a0 = 7 then
  if kc h (hR h a0 9) = 9 then
  if ix (((4 : Int32) * (((1600 : Int32) * a1) + a2)) + a3) (kl h (hR h a0 9)) then
  if kc h (hR h a0 5) = 9 then
  if ix (((4 : Int32) * a2) + a3) (kl h (hR h a0 5)) then
  lt (sJ h (hR h a0 5) (((4 : Int32) * a2) + a3).toNatClampNeg (hJ h (hR h a0 9) (((4 : Int32) * (((1600 : Int32) * a1) + a2)) + a3).toNatClampNeg)) (fun g15 =>
  lt (a3 + (1 : Int32)) (fun v17 =>
  r22 a0 a1 a2 v17 g15))
  else none
  else none
  else none
  else none
  else none)
def fX7_bringPaper_l22 (r12 : Nat → Int32 → Int32 → xH → Option (Unit × xH)) : Nat → Nat → Int32 → Int32 → Int32 → xH → Option (Unit × xH)
  | 0 => fun _ _ _ _ _ => none
  | k + 1 => fX7_bringPaper_b22 r12 (fX7_bringPaper_l22 r12 k)
def fX7_bringPaper_b12 (r12 : Nat → Int32 → Int32 → xH → Option (Unit × xH))  (a0 : Nat) (a1 : Int32) (a2 : Int32) (h : xH) : Option (Unit × xH) :=
  if kc h a0 = 7 then
  if (hI h a0 4) ≤ a2 then (
  some ((), h))
  else (
  lt (0 : Int32) (fun v2 =>
  fX7_bringPaper_l22 r12 FU a0 a1 a2 v2 h))
  else none
def fX7_bringPaper_l12  : Nat → Nat → Int32 → Int32 → xH → Option (Unit × xH)
  | 0 => fun _ _ _ _ => none
  | k + 1 => fX7_bringPaper_b12 (fX7_bringPaper_l12  k)
def fX7_bringPaper   (a0 : Nat) (a1 : Int32) (h : xH) : Option (Unit × xH) :=
  if kc h a0 = 7 then
  if kc h (hR h a0 8) = 8 then
  if ix a1 (kl h (hR h a0 8)) then
  lt (sI h a0 4 (hI h (hR h a0 8) a1.toNatClampNeg)) (fun g4 =>
  lt (0 : Int32) (fun v6 =>
  fX7_bringPaper_l12 FU a0 a1 v6 g4))
  else none
  else none
  else none
theorem pX7_bringPaper_b22 {h0 : xH} {r12 : Nat → Int32 → Int32 → xH → Option (Unit × xH)} {r22 : Nat → Int32 → Int32 → Int32 → xH → Option (Unit × xH)} (hr12 : ∀  (a0 : Nat) (a1 : Int32) (a2 : Int32) (g : xH), S emV kX7_bringPaper h0 12 [(0, .ref a0), (1, .int a1), (2, .int a2)] [] g (r12  a0 a1 a2 g)) (hr22 : ∀  (a0 : Nat) (a1 : Int32) (a2 : Int32) (a3 : Int32) (g : xH), S emV kX7_bringPaper h0 22 [(0, .ref a0), (1, .int a1), (2, .int a2), (3, .int a3)] [] g (r22  a0 a1 a2 a3 g))  (a0 : Nat) (a1 : Int32) (a2 : Int32) (a3 : Int32) (h : xH) : S emV kX7_bringPaper h0 22 [(0, .ref a0), (1, .int a1), (2, .int a2), (3, .int a3)] [] h (fX7_bringPaper_b22 r12 r22 a0 a1 a2 a3 h) := by
  unfold fX7_bringPaper_b22
  refine s_iload_n (pc := 22) (k0 := 3) (i := 3) rfl 3 rfl (by decide +kernel) ?_
  refine s_iconst (pc := 23) (n := 4) (v := (4 : Int32)) (by decide) (by decide +kernel) ?_
  refine s_icmp_ge (pc := 24) (off := 35) 59 (by decide +kernel) (by decide) (fun _ => ?_) (fun _ => ?_)
  · refine s_aload_n (pc := 59) (k0 := 0) (i := 0) rfl 0 rfl (by decide +kernel) ?_
    refine S_gd (fun c1 => ?_)
    refine s_getR (pc := 60) (k := 6) c1 ft_X7_22 rfl (by decide +kernel) ?_
    refine s_iload_n (pc := 63) (k0 := 2) (i := 2) rfl 2 rfl (by decide +kernel) ?_
    refine s_aload_n (pc := 64) (k0 := 0) (i := 0) rfl 0 rfl (by decide +kernel) ?_
    refine s_getR (pc := 65) (k := 10) c1 ft_X7_36 rfl (by decide +kernel) ?_
    refine s_sipush (pc := 68) (n := 1600) (v := (1600 : Int32)) (by decide) (by decide +kernel) ?_
    refine s_iload_n (pc := 71) (k0 := 1) (i := 1) rfl 1 rfl (by decide +kernel) ?_
    refine s_imul (pc := 72) (by decide +kernel) ?_
    refine s_iload_n (pc := 73) (k0 := 2) (i := 2) rfl 2 rfl (by decide +kernel) ?_
    refine s_iadd (pc := 74) (by decide +kernel) ?_
    refine S_gd (fun c2 => ?_)
    refine S_gd (fun c3 => ?_)
    refine s_zald (pc := 75) c2 c3 (by decide +kernel) ?_
    refine S_gd (fun c4 => ?_)
    refine S_gd (fun c5 => ?_)
    refine S_gd (fun c6 => ?_)
    refine s_zast (pc := 76) c4 c5 c6 (by decide +kernel) ?_
    refine s_nmH (o := h) rfl (fun g7 e8 => ?_)
    refine s_iinc (pc := 77) (L' := [(2, .int (a2 + (1 : Int32))), (0, .ref a0), (1, .int a1), (3, .int a3)]) (i := 2) (n := 1) 2 rfl rfl (by decide) rfl (by decide +kernel) ?_
    refine s_nmI0 (e := a2 + (1 : Int32)) (L := fun v9 => [(2, .int v9), (0, .ref a0), (1, .int a1), (3, .int a3)]) (fun v9 => ?_)
    refine s_goto (pc := 80) (off := -68) 12 (by decide +kernel) (by decide) ?_
    refine S_sub [1, 2, 0] rfl ?_
    exact hr12 a0 a1 v9 g7
  · refine s_aload_n (pc := 27) (k0 := 0) (i := 0) rfl 0 rfl (by decide +kernel) ?_
    refine S_gd (fun c10 => ?_)
    refine s_getR (pc := 28) (k := 5) c10 ft_X7_18 rfl (by decide +kernel) ?_
    refine s_iconst (pc := 31) (n := 4) (v := (4 : Int32)) (by decide) (by decide +kernel) ?_
    refine s_iload_n (pc := 32) (k0 := 2) (i := 2) rfl 2 rfl (by decide +kernel) ?_
    refine s_imul (pc := 33) (by decide +kernel) ?_
    refine s_iload_n (pc := 34) (k0 := 3) (i := 3) rfl 3 rfl (by decide +kernel) ?_
    refine s_iadd (pc := 35) (by decide +kernel) ?_
    refine s_aload_n (pc := 36) (k0 := 0) (i := 0) rfl 0 rfl (by decide +kernel) ?_
    refine s_getR (pc := 37) (k := 9) c10 ft_X7_33 rfl (by decide +kernel) ?_
    refine s_iconst (pc := 40) (n := 4) (v := (4 : Int32)) (by decide) (by decide +kernel) ?_
    refine s_sipush (pc := 41) (n := 1600) (v := (1600 : Int32)) (by decide) (by decide +kernel) ?_
    refine s_iload_n (pc := 44) (k0 := 1) (i := 1) rfl 1 rfl (by decide +kernel) ?_
    refine s_imul (pc := 45) (by decide +kernel) ?_
    refine s_iload_n (pc := 46) (k0 := 2) (i := 2) rfl 2 rfl (by decide +kernel) ?_
    refine s_iadd (pc := 47) (by decide +kernel) ?_
    refine s_imul (pc := 48) (by decide +kernel) ?_
    refine s_iload_n (pc := 49) (k0 := 3) (i := 3) rfl 3 rfl (by decide +kernel) ?_
    refine s_iadd (pc := 50) (by decide +kernel) ?_
    refine S_gd (fun c11 => ?_)
    refine S_gd (fun c12 => ?_)
    refine s_lald (pc := 51) c11 c12 (by decide +kernel) ?_
    refine S_gd (fun c13 => ?_)
    refine S_gd (fun c14 => ?_)
    refine s_last (pc := 52) c13 c14 (by decide +kernel) ?_
    refine s_nmH (o := h) rfl (fun g15 e16 => ?_)
    refine s_iinc (pc := 53) (L' := [(3, .int (a3 + (1 : Int32))), (0, .ref a0), (1, .int a1), (2, .int a2)]) (i := 3) (n := 1) 3 rfl rfl (by decide) rfl (by decide +kernel) ?_
    refine s_nmI0 (e := a3 + (1 : Int32)) (L := fun v17 => [(3, .int v17), (0, .ref a0), (1, .int a1), (2, .int a2)]) (fun v17 => ?_)
    refine s_goto (pc := 56) (off := -34) 22 (by decide +kernel) (by decide) ?_
    refine S_sub [1, 2, 3, 0] rfl ?_
    exact hr22 a0 a1 a2 v17 g15
theorem pX7_bringPaper_l22 {h0 : xH} {r12 : Nat → Int32 → Int32 → xH → Option (Unit × xH)} (hr12 : ∀  (a0 : Nat) (a1 : Int32) (a2 : Int32) (g : xH), S emV kX7_bringPaper h0 12 [(0, .ref a0), (1, .int a1), (2, .int a2)] [] g (r12  a0 a1 a2 g)) : ∀ (k : Nat)  (a0 : Nat) (a1 : Int32) (a2 : Int32) (a3 : Int32) (h : xH), S emV kX7_bringPaper h0 22 [(0, .ref a0), (1, .int a1), (2, .int a2), (3, .int a3)] [] h (fX7_bringPaper_l22 r12 k  a0 a1 a2 a3 h) := by
  intro k
  induction k with
  | zero => intros; exact S_none
  | succ k ih => intro  a0 a1 a2 a3 h; exact pX7_bringPaper_b22 hr12 ih  a0 a1 a2 a3 h
theorem pX7_bringPaper_b12 {h0 : xH} {r12 : Nat → Int32 → Int32 → xH → Option (Unit × xH)} (hr12 : ∀  (a0 : Nat) (a1 : Int32) (a2 : Int32) (g : xH), S emV kX7_bringPaper h0 12 [(0, .ref a0), (1, .int a1), (2, .int a2)] [] g (r12  a0 a1 a2 g))  (a0 : Nat) (a1 : Int32) (a2 : Int32) (h : xH) : S emV kX7_bringPaper h0 12 [(0, .ref a0), (1, .int a1), (2, .int a2)] [] h (fX7_bringPaper_b12 r12 a0 a1 a2 h) := by
  unfold fX7_bringPaper_b12
  refine s_iload_n (pc := 12) (k0 := 2) (i := 2) rfl 2 rfl (by decide +kernel) ?_
  refine s_aload_n (pc := 13) (k0 := 0) (i := 0) rfl 0 rfl (by decide +kernel) ?_
  refine S_gd (fun c1 => ?_)
  refine s_getI (pc := 14) (k := 4) c1 ft_X7_125 rfl (by decide +kernel) ?_
  refine s_icmp_ge (pc := 17) (off := 66) 83 (by decide +kernel) (by decide) (fun _ => ?_) (fun _ => ?_)
  · exact s_vret (pc := 83) rfl (by decide +kernel)
  · refine s_iconst (pc := 20) (n := 0) (v := (0 : Int32)) (by decide) (by decide +kernel) ?_
    refine s_nmI (fun v2 => ?_)
    refine s_istore_n (pc := 21) (L' := [(3, .int v2), (0, .ref a0), (1, .int a1), (2, .int a2)]) (k0 := 3) (i := 3) rfl (by decide) rfl (by decide +kernel) ?_
    refine S_sub [1, 2, 3, 0] rfl ?_
    exact pX7_bringPaper_l22 hr12 FU a0 a1 a2 v2 h
theorem pX7_bringPaper_l12 {h0 : xH}   : ∀ (k : Nat)  (a0 : Nat) (a1 : Int32) (a2 : Int32) (h : xH), S emV kX7_bringPaper h0 12 [(0, .ref a0), (1, .int a1), (2, .int a2)] [] h (fX7_bringPaper_l12  k  a0 a1 a2 h) := by
  intro k
  induction k with
  | zero => intros; exact S_none
  | succ k ih => intro  a0 a1 a2 h; exact pX7_bringPaper_b12 ih  a0 a1 a2 h
theorem pX7_bringPaper_e    (a0 : Nat) (a1 : Int32) (h : xH) : S emV kX7_bringPaper h 0 [(0, .ref a0), (1, .int a1)] [] h (fX7_bringPaper  a0 a1 h) := by
  unfold fX7_bringPaper
  refine s_aload_n (pc := 0) (k0 := 0) (i := 0) rfl 0 rfl (by decide +kernel) ?_
  refine s_aload_n (pc := 1) (k0 := 0) (i := 0) rfl 0 rfl (by decide +kernel) ?_
  refine S_gd (fun c1 => ?_)
  refine s_getR (pc := 2) (k := 8) c1 ft_X7_29 rfl (by decide +kernel) ?_
  refine s_iload_n (pc := 5) (k0 := 1) (i := 1) rfl 1 rfl (by decide +kernel) ?_
  refine S_gd (fun c2 => ?_)
  refine S_gd (fun c3 => ?_)
  refine s_iald (pc := 6) c2 c3 (by decide +kernel) ?_
  refine s_putI (pc := 7) (k := 4) c1 ft_X7_125 (fw_7_4 _ _) rfl rfl (by decide +kernel) ?_
  refine s_nmH (o := h) rfl (fun g4 e5 => ?_)
  refine s_iconst (pc := 10) (n := 0) (v := (0 : Int32)) (by decide) (by decide +kernel) ?_
  refine s_nmI (fun v6 => ?_)
  refine s_istore_n (pc := 11) (L' := [(2, .int v6), (0, .ref a0), (1, .int a1)]) (k0 := 2) (i := 2) rfl (by decide) rfl (by decide +kernel) ?_
  refine S_sub [1, 2, 0] rfl ?_
  exact pX7_bringPaper_l12 FU a0 a1 v6 g4
theorem tX7_bringPaper (a0 : Nat) (a1 : Int32) (h : xH) : Ct yX7_bringPaper kX7_bringPaper emV [.ref a0, .int a1] h (fX7_bringPaper a0 a1 h) := Ct_of (by decide +kernel) rfl rfl rfl (Nat.le_of_ble_eq_true rfl) rfl (pX7_bringPaper_e a0 a1 h)
def fX7_tell   (a0 : Nat) (a1 : Int32) (h : xH) : Option (Int32 × xH) :=
  if kc h a0 = 7 then
  lt (sI h a0 1 (0 : Int32)) (fun g2 =>
  some (a1, g2))
  else none
theorem pX7_tell_e    (a0 : Nat) (a1 : Int32) (h : xH) : S emI kX7_tell h 0 [(0, .ref a0), (1, .int a1)] [] h (fX7_tell  a0 a1 h) := by
  unfold fX7_tell
  refine s_aload_n (pc := 0) (k0 := 0) (i := 0) rfl 0 rfl (by decide +kernel) ?_
  refine s_iconst (pc := 1) (n := 0) (v := (0 : Int32)) (by decide) (by decide +kernel) ?_
  refine S_gd (fun c1 => ?_)
  refine s_putI (pc := 2) (k := 1) c1 ft_X7_122 (fw_7_1 _ _) rfl rfl (by decide +kernel) ?_
  refine s_nmH (o := h) rfl (fun g2 e3 => ?_)
  refine s_iload_n (pc := 5) (k0 := 1) (i := 1) rfl 1 rfl (by decide +kernel) ?_
  exact s_iret (pc := 6) rfl (by decide +kernel)
theorem tX7_tell (a0 : Nat) (a1 : Int32) (h : xH) : Ct yX7_tell kX7_tell emI [.ref a0, .int a1] h (fX7_tell a0 a1 h) := Ct_of (by decide +kernel) rfl rfl rfl (Nat.le_of_ble_eq_true rfl) rfl (pX7_tell_e a0 a1 h)
def fX7_read_b231 (r133 : Nat → Int32 → Int32 → xH → Option (Int32 × xH))  (a0 : Nat) (a1 : Int32) (a2 : Int32) (h : xH) : Option (Int32 × xH) :=
  lt (a2 + (1 : Int32)) (fun v1 =>
  r133 a0 a1 v1 h)
def fX7_read_b195 (r133 : Nat → Int32 → Int32 → xH → Option (Int32 × xH)) (s0 : Int32) (a0 : Nat) (a1 : Int32) (a2 : Int32) (h : xH) : Option (Int32 × xH) :=
  if kc h a0 = 7 then
  if kc h (hR h a0 41) = 8 then
  if ix a2 (kl h (hR h a0 41)) then
  if kc h (hR h a0 42) = 8 then
  if ix a2 (kl h (hR h a0 42)) then
  if ix s0 (kl h (hR h a0 41)) then
  if ix s0 (kl h (hR h a0 42)) then
  bd (fX7_lineBy a0 ((hI h (hR h a0 41) a2.toNatClampNeg).toInt64) ((hI h (hR h a0 42) a2.toNatClampNeg).toInt64) ((hI h (hR h a0 41) s0.toNatClampNeg).toInt64) ((hI h (hR h a0 42) s0.toNatClampNeg).toInt64) h) (fun _ g8 =>
  fX7_read_b231 r133 a0 a1 a2 g8)
  else none
  else none
  else none
  else none
  else none
  else none
  else none
def fX7_read_b184 (r133 : Nat → Int32 → Int32 → xH → Option (Int32 × xH))  (a0 : Nat) (a1 : Int32) (a2 : Int32) (a3 : Int32) (h : xH) : Option (Int32 × xH) :=
  if a3 = 0 then (
  fX7_read_b195 r133 (a2 + (1 : Int32)) a0 a1 a2 h)
  else (
  fX7_read_b195 r133 a2 a0 a1 a2 h)
def fX7_read_b170 (r133 : Nat → Int32 → Int32 → xH → Option (Int32 × xH)) (s0 : Int32) (a0 : Nat) (a1 : Int32) (a2 : Int32) (h : xH) : Option (Int32 × xH) :=
  if s0 = 0 then (
  if kc h a0 = 7 then
  if kc h (hR h a0 43) = 10 then
  if ix a2 (kl h (hR h a0 43)) then
  if (hI h (hR h a0 43) a2.toNatClampNeg) = 0 then (
  fX7_read_b231 r133 a0 a1 a2 h)
  else (
  fX7_read_b184 r133 a0 a1 a2 s0 h)
  else none
  else none
  else none)
  else (
  fX7_read_b184 r133 a0 a1 a2 s0 h)
def fX7_read_b169 (r133 : Nat → Int32 → Int32 → xH → Option (Int32 × xH))  (a0 : Nat) (a1 : Int32) (a2 : Int32) (h : xH) : Option (Int32 × xH) :=
  fX7_read_b170 r133 (0 : Int32) a0 a1 a2 h
def fX7_read_b165 (r133 : Nat → Int32 → Int32 → xH → Option (Int32 × xH))  (a0 : Nat) (a1 : Int32) (a2 : Int32) (h : xH) : Option (Int32 × xH) :=
  fX7_read_b170 r133 (1 : Int32) a0 a1 a2 h
def fX7_read_b133 (r133 : Nat → Int32 → Int32 → xH → Option (Int32 × xH))  (a0 : Nat) (a1 : Int32) (a2 : Int32) (h : xH) : Option (Int32 × xH) :=
  if kc h a0 = 7 then
  if (hI h a0 44) ≤ a2 then (
  bd (fX7_layPaper a0 h) (fun _ g2 =>
  bd (fX7_store a0 a1 g2) (fun _ g5 =>
  lt (hI g5 a0 4) (fun v8 =>
  if ¬ (8 : Int32) = 0 then
  bd (fX7_bringPaper a0 ((((hI g5 a0 18) + (hI g5 a0 12)) - (1 : Int32)) - (((hI g5 a0 18) + (hI g5 a0 12)) - (1 : Int32)) / (8 : Int32) * (8 : Int32)) g5) (fun _ g9 =>
  bd (fX7_tell a0 v8 g9) (fun w14 g12 =>
  some (w14, g12)))
  else none))))
  else (
  if kc h (hR h a0 43) = 10 then
  if ix a2 (kl h (hR h a0 43)) then
  if (hI h (hR h a0 43) a2.toNatClampNeg) = 0 then (
  if a2 = 0 then (
  fX7_read_b165 r133 a0 a1 a2 h)
  else (
  if ix (a2 - (1 : Int32)) (kl h (hR h a0 43)) then
  if (hI h (hR h a0 43) (a2 - (1 : Int32)).toNatClampNeg) = 0 then (
  fX7_read_b165 r133 a0 a1 a2 h)
  else (
  fX7_read_b169 r133 a0 a1 a2 h)
  else none))
  else (
  fX7_read_b169 r133 a0 a1 a2 h)
  else none
  else none)
  else none
def fX7_read_l133  : Nat → Nat → Int32 → Int32 → xH → Option (Int32 × xH)
  | 0 => fun _ _ _ _ => none
  | k + 1 => fX7_read_b133 (fX7_read_l133  k)
def fX7_read_b102   (a0 : Nat) (a1 : Int32) (h : xH) : Option (Int32 × xH) :=
  if kc h a0 = 7 then
  lt (sI h a0 36 (0 : Int32)) (fun g2 =>
  if (hI g2 a0 39) = 0 then (
  bd (fX7_refuse a0 (-6 : Int32) g2) (fun w13 g11 =>
  some (w13, g11)))
  else (
  bd (fX7_remember a0 (0 : Int32) g2) (fun _ g5 =>
  lt (sI g5 a0 19 (0 : Int32)) (fun g8 =>
  lt (0 : Int32) (fun v10 =>
  fX7_read_l133 FU a0 a1 v10 g8)))))
  else none
def fX7_read_b76   (a0 : Nat) (a1 : Int32) (h : xH) : Option (Int32 × xH) :=
  if kc h a0 = 7 then
  if (hI h a0 39) = 0 then (
  fX7_read_b102 a0 a1 h)
  else (
  if (hI h a0 36) ≤ (hI h a0 38) then (
  fX7_read_b102 a0 a1 h)
  else (
  bd (fX7_wrong a0 (hI h a0 38) h) (fun _ g2 =>
  fX7_read_b102 a0 a1 g2)))
  else none
def fX7_read_b43 (r43 : Nat → Int32 → xH → Option (Int32 × xH))  (a0 : Nat) (a1 : Int32) (h : xH) : Option (Int32 × xH) :=
  if kc h a0 = 7 then
  if (hI h a0 39) = 0 then (
  fX7_read_b76 a0 a1 h)
  else (
  bd (fX7_sign a0 h) (fun w4 g2 =>
  if w4 = (124 : Int32) then (
  lt (sI g2 a0 38 ((hI g2 a0 38) + (1 : Int32))) (fun g6 =>
  bd (fX7_readPart a0 g6) (fun _ g9 =>
  r43 a0 a1 g9)))
  else (
  fX7_read_b76 a0 a1 g2)))
  else none
def fX7_read_l43  : Nat → Nat → Int32 → xH → Option (Int32 × xH)
  | 0 => fun _ _ _ => none
  | k + 1 => fX7_read_b43 (fX7_read_l43  k)
def fX7_read   (a0 : Nat) (a1 : Int32) (h : xH) : Option (Int32 × xH) :=
  if kc h a0 = 7 then
  lt (sI h a0 0 (0 : Int32)) (fun g2 =>
  bd (fX7_isStore a1 g2) (fun w6 g4 =>
  if w6 = 0 then (
  bd (fX7_refuse a0 (-2 : Int32) g4) (fun w25 g23 =>
  some (w25, g23)))
  else (
  lt (sI g4 a0 37 (-1 : Int32)) (fun g8 =>
  lt (sI g8 a0 38 (0 : Int32)) (fun g11 =>
  lt (sI g11 a0 39 (1 : Int32)) (fun g14 =>
  lt (sI g14 a0 44 (0 : Int32)) (fun g17 =>
  bd (fX7_readPart a0 g17) (fun _ g20 =>
  fX7_read_l43 FU a0 a1 g20))))))))
  else none
theorem pX7_read_b231 {h0 : xH} {r133 : Nat → Int32 → Int32 → xH → Option (Int32 × xH)} (hr133 : ∀  (a0 : Nat) (a1 : Int32) (a2 : Int32) (g : xH), S emI kX7_read h0 133 [(0, .ref a0), (1, .int a1), (2, .int a2)] [] g (r133  a0 a1 a2 g))  (a0 : Nat) (a1 : Int32) (a2 : Int32) (h : xH) : S emI kX7_read h0 231 [(0, .ref a0), (1, .int a1), (2, .int a2)] [] h (fX7_read_b231 r133 a0 a1 a2 h) := by
  unfold fX7_read_b231
  refine s_iinc (pc := 231) (L' := [(2, .int (a2 + (1 : Int32))), (0, .ref a0), (1, .int a1)]) (i := 2) (n := 1) 2 rfl rfl (by decide) rfl (by decide +kernel) ?_
  refine s_nmI0 (e := a2 + (1 : Int32)) (L := fun v1 => [(2, .int v1), (0, .ref a0), (1, .int a1)]) (fun v1 => ?_)
  refine s_goto (pc := 234) (off := -101) 133 (by decide +kernel) (by decide) ?_
  refine S_sub [1, 2, 0] rfl ?_
  exact hr133 a0 a1 v1 h
theorem pX7_read_b195 {h0 : xH} {r133 : Nat → Int32 → Int32 → xH → Option (Int32 × xH)} (hr133 : ∀  (a0 : Nat) (a1 : Int32) (a2 : Int32) (g : xH), S emI kX7_read h0 133 [(0, .ref a0), (1, .int a1), (2, .int a2)] [] g (r133  a0 a1 a2 g)) (s0 : Int32) (a0 : Nat) (a1 : Int32) (a2 : Int32) (h : xH) : S emI kX7_read h0 195 [(0, .ref a0), (1, .int a1), (2, .int a2)] [.int s0] h (fX7_read_b195 r133 s0 a0 a1 a2 h) := by
  unfold fX7_read_b195
  refine s_istore (pc := 195) (L' := [(4, .int s0), (0, .ref a0), (1, .int a1), (2, .int a2)]) (i := 4) (by decide) rfl (by decide +kernel) ?_
  refine s_aload_n (pc := 197) (k0 := 0) (i := 0) rfl 1 rfl (by decide +kernel) ?_
  refine s_aload_n (pc := 198) (k0 := 0) (i := 0) rfl 1 rfl (by decide +kernel) ?_
  refine S_gd (fun c1 => ?_)
  refine s_getR (pc := 199) (k := 41) c1 ft_X7_98 rfl (by decide +kernel) ?_
  refine s_iload_n (pc := 202) (k0 := 2) (i := 2) rfl 3 rfl (by decide +kernel) ?_
  refine S_gd (fun c2 => ?_)
  refine S_gd (fun c3 => ?_)
  refine s_iald (pc := 203) c2 c3 (by decide +kernel) ?_
  refine s_i2l (pc := 204) (by decide +kernel) ?_
  refine s_aload_n (pc := 205) (k0 := 0) (i := 0) rfl 1 rfl (by decide +kernel) ?_
  refine s_getR (pc := 206) (k := 42) c1 ft_X7_101 rfl (by decide +kernel) ?_
  refine s_iload_n (pc := 209) (k0 := 2) (i := 2) rfl 3 rfl (by decide +kernel) ?_
  refine S_gd (fun c4 => ?_)
  refine S_gd (fun c5 => ?_)
  refine s_iald (pc := 210) c4 c5 (by decide +kernel) ?_
  refine s_i2l (pc := 211) (by decide +kernel) ?_
  refine s_aload_n (pc := 212) (k0 := 0) (i := 0) rfl 1 rfl (by decide +kernel) ?_
  refine s_getR (pc := 213) (k := 41) c1 ft_X7_98 rfl (by decide +kernel) ?_
  refine s_iload (pc := 216) (i := 4) 0 rfl (by decide +kernel) ?_
  refine S_gd (fun c6 => ?_)
  refine s_iald (pc := 218) c2 c6 (by decide +kernel) ?_
  refine s_i2l (pc := 219) (by decide +kernel) ?_
  refine s_aload_n (pc := 220) (k0 := 0) (i := 0) rfl 1 rfl (by decide +kernel) ?_
  refine s_getR (pc := 221) (k := 42) c1 ft_X7_101 rfl (by decide +kernel) ?_
  refine s_iload (pc := 224) (i := 4) 0 rfl (by decide +kernel) ?_
  refine S_gd (fun c7 => ?_)
  refine s_iald (pc := 226) c4 c7 (by decide +kernel) ?_
  refine s_i2l (pc := 227) (by decide +kernel) ?_
  refine s_cVv (pc := 228) [.long ((hI h (hR h a0 41) a2.toNatClampNeg).toInt64), .long ((hI h (hR h a0 42) a2.toNatClampNeg).toInt64), .long ((hI h (hR h a0 41) s0.toNatClampNeg).toInt64), .long ((hI h (hR h a0 42) s0.toNatClampNeg).toInt64)] (tX7_lineBy a0 ((hI h (hR h a0 41) a2.toNatClampNeg).toInt64) ((hI h (hR h a0 42) a2.toNatClampNeg).toInt64) ((hI h (hR h a0 41) s0.toNatClampNeg).toInt64) ((hI h (hR h a0 42) s0.toNatClampNeg).toInt64) h) c1 cw_X7_185 rfl ⟨⟨Nat.le_of_ble_eq_true rfl, Nat.le_of_ble_eq_true rfl⟩, Nat.le_of_ble_eq_true rfl⟩ rfl (by decide +kernel) (fun _ g8 e9 => ?_)
  refine S_sub [1, 2, 3] rfl ?_
  exact pX7_read_b231 hr133 a0 a1 a2 g8
theorem pX7_read_b184 {h0 : xH} {r133 : Nat → Int32 → Int32 → xH → Option (Int32 × xH)} (hr133 : ∀  (a0 : Nat) (a1 : Int32) (a2 : Int32) (g : xH), S emI kX7_read h0 133 [(0, .ref a0), (1, .int a1), (2, .int a2)] [] g (r133  a0 a1 a2 g))  (a0 : Nat) (a1 : Int32) (a2 : Int32) (a3 : Int32) (h : xH) : S emI kX7_read h0 184 [(0, .ref a0), (1, .int a1), (2, .int a2), (3, .int a3)] [] h (fX7_read_b184 r133 a0 a1 a2 a3 h) := by
  unfold fX7_read_b184
  refine s_iload_n (pc := 184) (k0 := 3) (i := 3) rfl 3 rfl (by decide +kernel) ?_
  refine s_if_eq (pc := 185) (off := 7) 192 (by decide +kernel) (by decide) (fun _ => ?_) (fun _ => ?_)
  · refine s_iload_n (pc := 192) (k0 := 2) (i := 2) rfl 2 rfl (by decide +kernel) ?_
    refine s_iconst (pc := 193) (n := 1) (v := (1 : Int32)) (by decide) (by decide +kernel) ?_
    refine s_iadd (pc := 194) (by decide +kernel) ?_
    refine S_sub [0, 1, 2] rfl ?_
    exact pX7_read_b195 hr133 (a2 + (1 : Int32)) a0 a1 a2 h
  · refine s_iload_n (pc := 188) (k0 := 2) (i := 2) rfl 2 rfl (by decide +kernel) ?_
    refine s_goto (pc := 189) (off := 6) 195 (by decide +kernel) (by decide) ?_
    refine S_sub [0, 1, 2] rfl ?_
    exact pX7_read_b195 hr133 a2 a0 a1 a2 h
theorem pX7_read_b170 {h0 : xH} {r133 : Nat → Int32 → Int32 → xH → Option (Int32 × xH)} (hr133 : ∀  (a0 : Nat) (a1 : Int32) (a2 : Int32) (g : xH), S emI kX7_read h0 133 [(0, .ref a0), (1, .int a1), (2, .int a2)] [] g (r133  a0 a1 a2 g)) (s0 : Int32) (a0 : Nat) (a1 : Int32) (a2 : Int32) (h : xH) : S emI kX7_read h0 170 [(0, .ref a0), (1, .int a1), (2, .int a2)] [.int s0] h (fX7_read_b170 r133 s0 a0 a1 a2 h) := by
  unfold fX7_read_b170
  refine s_istore_n (pc := 170) (L' := [(3, .int s0), (0, .ref a0), (1, .int a1), (2, .int a2)]) (k0 := 3) (i := 3) rfl (by decide) rfl (by decide +kernel) ?_
  refine s_iload_n (pc := 171) (k0 := 3) (i := 3) rfl 0 rfl (by decide +kernel) ?_
  refine s_if_ne (pc := 172) (off := 12) 184 (by decide +kernel) (by decide) (fun _ => ?_) (fun _ => ?_)
  · refine s_aload_n (pc := 175) (k0 := 0) (i := 0) rfl 1 rfl (by decide +kernel) ?_
    refine S_gd (fun c1 => ?_)
    refine s_getR (pc := 176) (k := 43) c1 ft_X7_104 rfl (by decide +kernel) ?_
    refine s_iload_n (pc := 179) (k0 := 2) (i := 2) rfl 3 rfl (by decide +kernel) ?_
    refine S_gd (fun c2 => ?_)
    refine S_gd (fun c3 => ?_)
    refine s_zald (pc := 180) c2 c3 (by decide +kernel) ?_
    refine s_if_eq (pc := 181) (off := 50) 231 (by decide +kernel) (by decide) (fun _ => ?_) (fun _ => ?_)
    · refine S_sub [1, 2, 3] rfl ?_
      exact pX7_read_b231 hr133 a0 a1 a2 h
    · refine S_sub [1, 2, 3, 0] rfl ?_
      exact pX7_read_b184 hr133 a0 a1 a2 s0 h
  · refine S_sub [1, 2, 3, 0] rfl ?_
    exact pX7_read_b184 hr133 a0 a1 a2 s0 h
theorem pX7_read_b169 {h0 : xH} {r133 : Nat → Int32 → Int32 → xH → Option (Int32 × xH)} (hr133 : ∀  (a0 : Nat) (a1 : Int32) (a2 : Int32) (g : xH), S emI kX7_read h0 133 [(0, .ref a0), (1, .int a1), (2, .int a2)] [] g (r133  a0 a1 a2 g))  (a0 : Nat) (a1 : Int32) (a2 : Int32) (h : xH) : S emI kX7_read h0 169 [(0, .ref a0), (1, .int a1), (2, .int a2)] [] h (fX7_read_b169 r133 a0 a1 a2 h) := by
  unfold fX7_read_b169
  refine s_iconst (pc := 169) (n := 0) (v := (0 : Int32)) (by decide) (by decide +kernel) ?_
  exact pX7_read_b170 hr133 (0 : Int32) a0 a1 a2 h
theorem pX7_read_b165 {h0 : xH} {r133 : Nat → Int32 → Int32 → xH → Option (Int32 × xH)} (hr133 : ∀  (a0 : Nat) (a1 : Int32) (a2 : Int32) (g : xH), S emI kX7_read h0 133 [(0, .ref a0), (1, .int a1), (2, .int a2)] [] g (r133  a0 a1 a2 g))  (a0 : Nat) (a1 : Int32) (a2 : Int32) (h : xH) : S emI kX7_read h0 165 [(0, .ref a0), (1, .int a1), (2, .int a2)] [] h (fX7_read_b165 r133 a0 a1 a2 h) := by
  unfold fX7_read_b165
  refine s_iconst (pc := 165) (n := 1) (v := (1 : Int32)) (by decide) (by decide +kernel) ?_
  refine s_goto (pc := 166) (off := 4) 170 (by decide +kernel) (by decide) ?_
  exact pX7_read_b170 hr133 (1 : Int32) a0 a1 a2 h
theorem pX7_read_b133 {h0 : xH} {r133 : Nat → Int32 → Int32 → xH → Option (Int32 × xH)} (hr133 : ∀  (a0 : Nat) (a1 : Int32) (a2 : Int32) (g : xH), S emI kX7_read h0 133 [(0, .ref a0), (1, .int a1), (2, .int a2)] [] g (r133  a0 a1 a2 g))  (a0 : Nat) (a1 : Int32) (a2 : Int32) (h : xH) : S emI kX7_read h0 133 [(0, .ref a0), (1, .int a1), (2, .int a2)] [] h (fX7_read_b133 r133 a0 a1 a2 h) := by
  unfold fX7_read_b133
  refine s_iload_n (pc := 133) (k0 := 2) (i := 2) rfl 2 rfl (by decide +kernel) ?_
  refine s_aload_n (pc := 134) (k0 := 0) (i := 0) rfl 0 rfl (by decide +kernel) ?_
  refine S_gd (fun c1 => ?_)
  refine s_getI (pc := 135) (k := 44) c1 ft_X7_316 rfl (by decide +kernel) ?_
  refine s_icmp_ge (pc := 138) (off := 99) 237 (by decide +kernel) (by decide) (fun _ => ?_) (fun _ => ?_)
  · refine s_aload_n (pc := 237) (k0 := 0) (i := 0) rfl 0 rfl (by decide +kernel) ?_
    refine s_cVv (pc := 238) [] (tX7_layPaper a0 h) c1 cw_X7_244 rfl ⟨⟨Nat.le_of_ble_eq_true rfl, Nat.le_of_ble_eq_true rfl⟩, Nat.le_of_ble_eq_true rfl⟩ rfl (by decide +kernel) (fun _ g2 e3 => ?_)
    refine s_aload_n (pc := 241) (k0 := 0) (i := 0) rfl 0 rfl (by decide +kernel) ?_
    refine s_iload_n (pc := 242) (k0 := 1) (i := 1) rfl 1 rfl (by decide +kernel) ?_
    have c4 := kp e3 c1 (by decide)
    refine s_cVv (pc := 243) [.int a1] (tX7_store a0 a1 g2) c4 cw_X7_280 rfl ⟨⟨Nat.le_of_ble_eq_true rfl, Nat.le_of_ble_eq_true rfl⟩, Nat.le_of_ble_eq_true rfl⟩ rfl (by decide +kernel) (fun _ g5 e6 => ?_)
    refine s_aload_n (pc := 246) (k0 := 0) (i := 0) rfl 0 rfl (by decide +kernel) ?_
    have c7 := kp e6 c4 (by decide)
    refine s_getI (pc := 247) (k := 4) c7 ft_X7_125 rfl (by decide +kernel) ?_
    refine s_nmI (fun v8 => ?_)
    refine s_istore_n (pc := 250) (L' := [(2, .int v8), (0, .ref a0), (1, .int a1)]) (k0 := 2) (i := 2) rfl (by decide) rfl (by decide +kernel) ?_
    refine s_aload_n (pc := 251) (k0 := 0) (i := 0) rfl 1 rfl (by decide +kernel) ?_
    refine s_aload_n (pc := 252) (k0 := 0) (i := 0) rfl 1 rfl (by decide +kernel) ?_
    refine s_getI (pc := 253) (k := 18) c7 ft_X7_128 rfl (by decide +kernel) ?_
    refine s_aload_n (pc := 256) (k0 := 0) (i := 0) rfl 1 rfl (by decide +kernel) ?_
    refine s_getI (pc := 257) (k := 12) c7 ft_X7_131 rfl (by decide +kernel) ?_
    refine s_iadd (pc := 260) (by decide +kernel) ?_
    refine s_iconst (pc := 261) (n := 1) (v := (1 : Int32)) (by decide) (by decide +kernel) ?_
    refine s_isub (pc := 262) (by decide +kernel) ?_
    refine s_bipush (pc := 263) (n := 8) (v := (8 : Int32)) (by decide) (by decide +kernel) ?_
    refine s_irem (pc := 265) (by decide +kernel) ?_
    refine s_cVv (pc := 266) [.int ((((hI g5 a0 18) + (hI g5 a0 12)) - (1 : Int32)) - (((hI g5 a0 18) + (hI g5 a0 12)) - (1 : Int32)) / (8 : Int32) * (8 : Int32))] (tX7_bringPaper a0 ((((hI g5 a0 18) + (hI g5 a0 12)) - (1 : Int32)) - (((hI g5 a0 18) + (hI g5 a0 12)) - (1 : Int32)) / (8 : Int32) * (8 : Int32)) g5) c7 cw_X7_329 rfl ⟨⟨Nat.le_of_ble_eq_true rfl, Nat.le_of_ble_eq_true rfl⟩, Nat.le_of_ble_eq_true rfl⟩ rfl (by decide +kernel) (fun _ g9 e10 => ?_)
    refine s_aload_n (pc := 269) (k0 := 0) (i := 0) rfl 1 rfl (by decide +kernel) ?_
    refine s_iload_n (pc := 270) (k0 := 2) (i := 2) rfl 0 rfl (by decide +kernel) ?_
    have c11 := kp e10 c7 (by decide)
    refine s_cVi (pc := 271) [.int v8] (tX7_tell a0 v8 g9) c11 cw_X7_145 rfl ⟨⟨Nat.le_of_ble_eq_true rfl, Nat.le_of_ble_eq_true rfl⟩, Nat.le_of_ble_eq_true rfl⟩ rfl (by decide +kernel) (fun w14 g12 e13 => ?_)
    exact s_iret (pc := 274) rfl (by decide +kernel)
  · refine s_aload_n (pc := 141) (k0 := 0) (i := 0) rfl 0 rfl (by decide +kernel) ?_
    refine s_getR (pc := 142) (k := 43) c1 ft_X7_104 rfl (by decide +kernel) ?_
    refine s_iload_n (pc := 145) (k0 := 2) (i := 2) rfl 2 rfl (by decide +kernel) ?_
    refine S_gd (fun c15 => ?_)
    refine S_gd (fun c16 => ?_)
    refine s_zald (pc := 146) c15 c16 (by decide +kernel) ?_
    refine s_if_ne (pc := 147) (off := 22) 169 (by decide +kernel) (by decide) (fun _ => ?_) (fun _ => ?_)
    · refine s_iload_n (pc := 150) (k0 := 2) (i := 2) rfl 2 rfl (by decide +kernel) ?_
      refine s_if_eq (pc := 151) (off := 14) 165 (by decide +kernel) (by decide) (fun _ => ?_) (fun _ => ?_)
      · exact pX7_read_b165 hr133 a0 a1 a2 h
      · refine s_aload_n (pc := 154) (k0 := 0) (i := 0) rfl 0 rfl (by decide +kernel) ?_
        refine s_getR (pc := 155) (k := 43) c1 ft_X7_104 rfl (by decide +kernel) ?_
        refine s_iload_n (pc := 158) (k0 := 2) (i := 2) rfl 2 rfl (by decide +kernel) ?_
        refine s_iconst (pc := 159) (n := 1) (v := (1 : Int32)) (by decide) (by decide +kernel) ?_
        refine s_isub (pc := 160) (by decide +kernel) ?_
        refine S_gd (fun c17 => ?_)
        refine s_zald (pc := 161) c15 c17 (by decide +kernel) ?_
        refine s_if_ne (pc := 162) (off := 7) 169 (by decide +kernel) (by decide) (fun _ => ?_) (fun _ => ?_)
        · exact pX7_read_b165 hr133 a0 a1 a2 h
        · exact pX7_read_b169 hr133 a0 a1 a2 h
    · exact pX7_read_b169 hr133 a0 a1 a2 h
theorem pX7_read_l133 {h0 : xH}   : ∀ (k : Nat)  (a0 : Nat) (a1 : Int32) (a2 : Int32) (h : xH), S emI kX7_read h0 133 [(0, .ref a0), (1, .int a1), (2, .int a2)] [] h (fX7_read_l133  k  a0 a1 a2 h) := by
  intro k
  induction k with
  | zero => intros; exact S_none
  | succ k ih => intro  a0 a1 a2 h; exact pX7_read_b133 ih  a0 a1 a2 h
theorem pX7_read_b102 {h0 : xH}    (a0 : Nat) (a1 : Int32) (h : xH) : S emI kX7_read h0 102 [(0, .ref a0), (1, .int a1)] [] h (fX7_read_b102  a0 a1 h) := by
  unfold fX7_read_b102
  refine s_aload_n (pc := 102) (k0 := 0) (i := 0) rfl 0 rfl (by decide +kernel) ?_
  refine s_iconst (pc := 103) (n := 0) (v := (0 : Int32)) (by decide) (by decide +kernel) ?_
  refine S_gd (fun c1 => ?_)
  refine s_putI (pc := 104) (k := 36) c1 ft_X7_283 (fw_7_36 _ _) rfl rfl (by decide +kernel) ?_
  refine s_nmH (o := h) rfl (fun g2 e3 => ?_)
  refine s_aload_n (pc := 107) (k0 := 0) (i := 0) rfl 0 rfl (by decide +kernel) ?_
  have c4 := kp e3 c1 (by decide)
  refine s_getI (pc := 108) (k := 39) c4 ft_X7_296 rfl (by decide +kernel) ?_
  refine s_if_ne (pc := 111) (off := 10) 121 (by decide +kernel) (by decide) (fun _ => ?_) (fun _ => ?_)
  · refine s_aload_n (pc := 114) (k0 := 0) (i := 0) rfl 0 rfl (by decide +kernel) ?_
    refine s_bipush (pc := 115) (n := -6) (v := (-6 : Int32)) (by decide) (by decide +kernel) ?_
    refine s_cVi (pc := 117) [.int (-6 : Int32)] (tX7_refuse a0 (-6 : Int32) g2) c4 cw_X7_138 rfl ⟨⟨Nat.le_of_ble_eq_true rfl, Nat.le_of_ble_eq_true rfl⟩, Nat.le_of_ble_eq_true rfl⟩ rfl (by decide +kernel) (fun w13 g11 e12 => ?_)
    exact s_iret (pc := 120) rfl (by decide +kernel)
  · refine s_aload_n (pc := 121) (k0 := 0) (i := 0) rfl 0 rfl (by decide +kernel) ?_
    refine s_iconst (pc := 122) (n := 0) (v := (0 : Int32)) (by decide) (by decide +kernel) ?_
    refine s_cVv (pc := 123) [.int (0 : Int32)] (tX7_remember a0 (0 : Int32) g2) c4 cw_X7_241 rfl ⟨⟨Nat.le_of_ble_eq_true rfl, Nat.le_of_ble_eq_true rfl⟩, Nat.le_of_ble_eq_true rfl⟩ rfl (by decide +kernel) (fun _ g5 e6 => ?_)
    refine s_aload_n (pc := 126) (k0 := 0) (i := 0) rfl 0 rfl (by decide +kernel) ?_
    refine s_iconst (pc := 127) (n := 0) (v := (0 : Int32)) (by decide) (by decide +kernel) ?_
    have c7 := kp e6 c4 (by decide)
    refine s_putI (pc := 128) (k := 19) c7 ft_X7_158 (fw_7_19 _ _) rfl rfl (by decide +kernel) ?_
    refine s_nmH (o := g5) rfl (fun g8 e9 => ?_)
    refine s_iconst (pc := 131) (n := 0) (v := (0 : Int32)) (by decide) (by decide +kernel) ?_
    refine s_nmI (fun v10 => ?_)
    refine s_istore_n (pc := 132) (L' := [(2, .int v10), (0, .ref a0), (1, .int a1)]) (k0 := 2) (i := 2) rfl (by decide) rfl (by decide +kernel) ?_
    refine S_sub [1, 2, 0] rfl ?_
    exact pX7_read_l133 FU a0 a1 v10 g8
theorem pX7_read_b76 {h0 : xH}    (a0 : Nat) (a1 : Int32) (h : xH) : S emI kX7_read h0 76 [(0, .ref a0), (1, .int a1)] [] h (fX7_read_b76  a0 a1 h) := by
  unfold fX7_read_b76
  refine s_aload_n (pc := 76) (k0 := 0) (i := 0) rfl 0 rfl (by decide +kernel) ?_
  refine S_gd (fun c1 => ?_)
  refine s_getI (pc := 77) (k := 39) c1 ft_X7_296 rfl (by decide +kernel) ?_
  refine s_if_eq (pc := 80) (off := 22) 102 (by decide +kernel) (by decide) (fun _ => ?_) (fun _ => ?_)
  · exact pX7_read_b102 a0 a1 h
  · refine s_aload_n (pc := 83) (k0 := 0) (i := 0) rfl 0 rfl (by decide +kernel) ?_
    refine s_getI (pc := 84) (k := 38) c1 ft_X7_289 rfl (by decide +kernel) ?_
    refine s_aload_n (pc := 87) (k0 := 0) (i := 0) rfl 0 rfl (by decide +kernel) ?_
    refine s_getI (pc := 88) (k := 36) c1 ft_X7_283 rfl (by decide +kernel) ?_
    refine s_icmp_ge (pc := 91) (off := 11) 102 (by decide +kernel) (by decide) (fun _ => ?_) (fun _ => ?_)
    · exact pX7_read_b102 a0 a1 h
    · refine s_aload_n (pc := 94) (k0 := 0) (i := 0) rfl 0 rfl (by decide +kernel) ?_
      refine s_aload_n (pc := 95) (k0 := 0) (i := 0) rfl 0 rfl (by decide +kernel) ?_
      refine s_getI (pc := 96) (k := 38) c1 ft_X7_289 rfl (by decide +kernel) ?_
      refine s_cVv (pc := 99) [.int (hI h a0 38)] (tX7_wrong a0 (hI h a0 38) h) c1 cw_X7_306 rfl ⟨⟨Nat.le_of_ble_eq_true rfl, Nat.le_of_ble_eq_true rfl⟩, Nat.le_of_ble_eq_true rfl⟩ rfl (by decide +kernel) (fun _ g2 e3 => ?_)
      exact pX7_read_b102 a0 a1 g2
theorem pX7_read_b43 {h0 : xH} {r43 : Nat → Int32 → xH → Option (Int32 × xH)} (hr43 : ∀  (a0 : Nat) (a1 : Int32) (g : xH), S emI kX7_read h0 43 [(0, .ref a0), (1, .int a1)] [] g (r43  a0 a1 g))  (a0 : Nat) (a1 : Int32) (h : xH) : S emI kX7_read h0 43 [(0, .ref a0), (1, .int a1)] [] h (fX7_read_b43 r43 a0 a1 h) := by
  unfold fX7_read_b43
  refine s_aload_n (pc := 43) (k0 := 0) (i := 0) rfl 0 rfl (by decide +kernel) ?_
  refine S_gd (fun c1 => ?_)
  refine s_getI (pc := 44) (k := 39) c1 ft_X7_296 rfl (by decide +kernel) ?_
  refine s_if_eq (pc := 47) (off := 29) 76 (by decide +kernel) (by decide) (fun _ => ?_) (fun _ => ?_)
  · exact pX7_read_b76 a0 a1 h
  · refine s_aload_n (pc := 50) (k0 := 0) (i := 0) rfl 0 rfl (by decide +kernel) ?_
    refine s_cVi (pc := 51) [] (tX7_sign a0 h) c1 cw_X7_300 rfl ⟨⟨Nat.le_of_ble_eq_true rfl, Nat.le_of_ble_eq_true rfl⟩, Nat.le_of_ble_eq_true rfl⟩ rfl (by decide +kernel) (fun w4 g2 e3 => ?_)
    refine s_bipush (pc := 54) (n := 124) (v := (124 : Int32)) (by decide) (by decide +kernel) ?_
    refine s_icmp_ne (pc := 56) (off := 20) 76 (by decide +kernel) (by decide) (fun _ => ?_) (fun _ => ?_)
    · refine s_aload_n (pc := 59) (k0 := 0) (i := 0) rfl 0 rfl (by decide +kernel) ?_
      refine s_dup_a (pc := 60) (by decide +kernel) ?_
      have c5 := kp e3 c1 (by decide)
      refine s_getI (pc := 61) (k := 38) c5 ft_X7_289 rfl (by decide +kernel) ?_
      refine s_iconst (pc := 64) (n := 1) (v := (1 : Int32)) (by decide) (by decide +kernel) ?_
      refine s_iadd (pc := 65) (by decide +kernel) ?_
      refine s_putI (pc := 66) (k := 38) c5 ft_X7_289 (fw_7_38 _ _) rfl rfl (by decide +kernel) ?_
      refine s_nmH (o := g2) rfl (fun g6 e7 => ?_)
      refine s_aload_n (pc := 69) (k0 := 0) (i := 0) rfl 0 rfl (by decide +kernel) ?_
      have c8 := kp e7 c5 (by decide)
      refine s_cVv (pc := 70) [] (tX7_readPart a0 g6) c8 cw_X7_326 rfl ⟨⟨Nat.le_of_ble_eq_true rfl, Nat.le_of_ble_eq_true rfl⟩, Nat.le_of_ble_eq_true rfl⟩ rfl (by decide +kernel) (fun _ g9 e10 => ?_)
      refine s_goto (pc := 73) (off := -30) 43 (by decide +kernel) (by decide) ?_
      exact hr43 a0 a1 g9
    · exact pX7_read_b76 a0 a1 g2
theorem pX7_read_l43 {h0 : xH}   : ∀ (k : Nat)  (a0 : Nat) (a1 : Int32) (h : xH), S emI kX7_read h0 43 [(0, .ref a0), (1, .int a1)] [] h (fX7_read_l43  k  a0 a1 h) := by
  intro k
  induction k with
  | zero => intros; exact S_none
  | succ k ih => intro  a0 a1 h; exact pX7_read_b43 ih  a0 a1 h
theorem pX7_read_e    (a0 : Nat) (a1 : Int32) (h : xH) : S emI kX7_read h 0 [(0, .ref a0), (1, .int a1)] [] h (fX7_read  a0 a1 h) := by
  unfold fX7_read
  refine s_aload_n (pc := 0) (k0 := 0) (i := 0) rfl 0 rfl (by decide +kernel) ?_
  refine s_iconst (pc := 1) (n := 0) (v := (0 : Int32)) (by decide) (by decide +kernel) ?_
  refine S_gd (fun c1 => ?_)
  refine s_putI (pc := 2) (k := 0) c1 ft_X7_107 (fw_7_0 _ _) rfl rfl (by decide +kernel) ?_
  refine s_nmH (o := h) rfl (fun g2 e3 => ?_)
  refine s_iload_n (pc := 5) (k0 := 1) (i := 1) rfl 1 rfl (by decide +kernel) ?_
  refine s_cSi (pc := 6) [.int a1] (tX7_isStore a1 g2) cw_X7_247 rfl ⟨⟨Nat.le_of_ble_eq_true rfl, Nat.le_of_ble_eq_true rfl⟩, Nat.le_of_ble_eq_true rfl⟩ rfl (by decide +kernel) (fun w6 g4 e5 => ?_)
  refine s_if_ne (pc := 9) (off := 10) 19 (by decide +kernel) (by decide) (fun _ => ?_) (fun _ => ?_)
  · refine s_aload_n (pc := 12) (k0 := 0) (i := 0) rfl 0 rfl (by decide +kernel) ?_
    refine s_bipush (pc := 13) (n := -2) (v := (-2 : Int32)) (by decide) (by decide +kernel) ?_
    have c22 := kp (Le.tr e3 e5) c1 (by decide)
    refine s_cVi (pc := 15) [.int (-2 : Int32)] (tX7_refuse a0 (-2 : Int32) g4) c22 cw_X7_138 rfl ⟨⟨Nat.le_of_ble_eq_true rfl, Nat.le_of_ble_eq_true rfl⟩, Nat.le_of_ble_eq_true rfl⟩ rfl (by decide +kernel) (fun w25 g23 e24 => ?_)
    exact s_iret (pc := 18) rfl (by decide +kernel)
  · refine s_aload_n (pc := 19) (k0 := 0) (i := 0) rfl 0 rfl (by decide +kernel) ?_
    refine s_iconst (pc := 20) (n := -1) (v := (-1 : Int32)) (by decide) (by decide +kernel) ?_
    have c7 := kp (Le.tr e3 e5) c1 (by decide)
    refine s_putI (pc := 21) (k := 37) c7 ft_X7_94 (fw_7_37 _ _) rfl rfl (by decide +kernel) ?_
    refine s_nmH (o := g4) rfl (fun g8 e9 => ?_)
    refine s_aload_n (pc := 24) (k0 := 0) (i := 0) rfl 0 rfl (by decide +kernel) ?_
    refine s_iconst (pc := 25) (n := 0) (v := (0 : Int32)) (by decide) (by decide +kernel) ?_
    have c10 := kp e9 c7 (by decide)
    refine s_putI (pc := 26) (k := 38) c10 ft_X7_289 (fw_7_38 _ _) rfl rfl (by decide +kernel) ?_
    refine s_nmH (o := g8) rfl (fun g11 e12 => ?_)
    refine s_aload_n (pc := 29) (k0 := 0) (i := 0) rfl 0 rfl (by decide +kernel) ?_
    refine s_iconst (pc := 30) (n := 1) (v := (1 : Int32)) (by decide) (by decide +kernel) ?_
    have c13 := kp e12 c10 (by decide)
    refine s_putZ (pc := 31) (k := 39) (by decide) c13 ft_X7_296 (fw_7_39 _ _) rfl rfl (by decide +kernel) ?_
    refine s_nmH (o := g11) rfl (fun g14 e15 => ?_)
    refine s_aload_n (pc := 34) (k0 := 0) (i := 0) rfl 0 rfl (by decide +kernel) ?_
    refine s_iconst (pc := 35) (n := 0) (v := (0 : Int32)) (by decide) (by decide +kernel) ?_
    have c16 := kp e15 c13 (by decide)
    refine s_putI (pc := 36) (k := 44) c16 ft_X7_316 (fw_7_44 _ _) rfl rfl (by decide +kernel) ?_
    refine s_nmH (o := g14) rfl (fun g17 e18 => ?_)
    refine s_aload_n (pc := 39) (k0 := 0) (i := 0) rfl 0 rfl (by decide +kernel) ?_
    have c19 := kp e18 c16 (by decide)
    refine s_cVv (pc := 40) [] (tX7_readPart a0 g17) c19 cw_X7_326 rfl ⟨⟨Nat.le_of_ble_eq_true rfl, Nat.le_of_ble_eq_true rfl⟩, Nat.le_of_ble_eq_true rfl⟩ rfl (by decide +kernel) (fun _ g20 e21 => ?_)
    exact pX7_read_l43 FU a0 a1 g20
theorem tX7_read (a0 : Nat) (a1 : Int32) (h : xH) : Ct yX7_read kX7_read emI [.ref a0, .int a1] h (fX7_read a0 a1 h) := Ct_of (by decide +kernel) rfl rfl rfl (Nat.le_of_ble_eq_true rfl) rfl (pX7_read_e a0 a1 h)
def fX7_fault   (a0 : Nat) (h : xH) : Option (Int32 × xH) :=
  if kc h a0 = 7 then
  lt (sI h a0 0 (0 : Int32)) (fun g2 =>
  some ((hI g2 a0 37), g2))
  else none
theorem pX7_fault_e    (a0 : Nat) (h : xH) : S emI kX7_fault h 0 [(0, .ref a0)] [] h (fX7_fault  a0 h) := by
  unfold fX7_fault
  refine s_aload_n (pc := 0) (k0 := 0) (i := 0) rfl 0 rfl (by decide +kernel) ?_
  refine s_iconst (pc := 1) (n := 0) (v := (0 : Int32)) (by decide) (by decide +kernel) ?_
  refine S_gd (fun c1 => ?_)
  refine s_putI (pc := 2) (k := 0) c1 ft_X7_107 (fw_7_0 _ _) rfl rfl (by decide +kernel) ?_
  refine s_nmH (o := h) rfl (fun g2 e3 => ?_)
  refine s_aload_n (pc := 5) (k0 := 0) (i := 0) rfl 0 rfl (by decide +kernel) ?_
  have c4 := kp e3 c1 (by decide)
  refine s_getI (pc := 6) (k := 37) c4 ft_X7_94 rfl (by decide +kernel) ?_
  exact s_iret (pc := 9) rfl (by decide +kernel)
theorem tX7_fault (a0 : Nat) (h : xH) : Ct yX7_fault kX7_fault emI [.ref a0] h (fX7_fault a0 h) := Ct_of (by decide +kernel) rfl rfl rfl (Nat.le_of_ble_eq_true rfl) rfl (pX7_fault_e a0 h)
def fX7_isPlace   (a0 : Int64) (h : xH) : Option (Int32 × xH) :=
  bd (fX7_in a0 (-5940 : Int64) (5940 : Int64) h) (fun w3 g1 =>
  if w3 = 0 ∨ w3 = 1 then
  some (w3, g1)
  else none)
theorem pX7_isPlace_e    (a0 : Int64) (h : xH) : S emI kX7_isPlace h 0 [(0, .long a0)] [] h (fX7_isPlace  a0 h) := by
  unfold fX7_isPlace
  refine s_lload_n (pc := 0) (k0 := 0) (i := 0) rfl 0 rfl (by decide +kernel) ?_
  refine s_ldc2 (pc := 1) (v := (-5940 : Int64)) (index := 110) (gd_of 1204 (by decide +kernel) rfl) (by decide +kernel) ?_
  refine s_ldc2 (pc := 4) (v := (5940 : Int64)) (index := 112) (gd_of 1205 (by decide +kernel) rfl) (by decide +kernel) ?_
  refine s_cSi (pc := 7) [.long a0, .long (-5940 : Int64), .long (5940 : Int64)] (tX7_in a0 (-5940 : Int64) (5940 : Int64) h) cw_X7_114 rfl ⟨⟨Nat.le_of_ble_eq_true rfl, Nat.le_of_ble_eq_true rfl⟩, Nat.le_of_ble_eq_true rfl⟩ rfl (by decide +kernel) (fun w3 g1 e2 => ?_)
  refine S_gd (fun c4 => ?_)
  exact s_zret (pc := 10) c4 rfl (by decide +kernel)
theorem tX7_isPlace (a0 : Int64) (h : xH) : Ct yX7_isPlace kX7_isPlace emI [.long a0] h (fX7_isPlace a0 h) := Ct_of (by decide +kernel) rfl rfl rfl (Nat.le_of_ble_eq_true rfl) rfl (pX7_isPlace_e a0 h)
def fX7_dot_b21   (a0 : Nat) (h : xH) : Option (Int32 × xH) :=
  if kc h a0 = 7 then
  bd (fX7_refuse a0 (-1 : Int32) h) (fun w4 g2 =>
  some (w4, g2))
  else none
def fX7_dot   (a0 : Nat) (a1 : Int32) (a2 : Int32) (a3 : Int32) (h : xH) : Option (Int32 × xH) :=
  if kc h a0 = 7 then
  lt (sI h a0 0 (0 : Int32)) (fun g2 =>
  bd (fX7_isPlace a2.toInt64 g2) (fun w6 g4 =>
  if w6 = 0 then (
  fX7_dot_b21 a0 g4)
  else (
  bd (fX7_isPlace a3.toInt64 g4) (fun w9 g7 =>
  if w9 = 0 then (
  fX7_dot_b21 a0 g7)
  else (
  bd (fX7_isStore a1 g7) (fun w12 g10 =>
  if w12 = 0 then (
  bd (fX7_refuse a0 (-2 : Int32) g10) (fun w43 g41 =>
  some (w43, g41)))
  else (
  bd (fX7_remember a0 (1 : Int32) g10) (fun _ g14 =>
  if kc g14 (hR g14 a0 3) = 8 then
  if ix ((37 : Int32) * a1) (kl g14 (hR g14 a0 3)) then
  lt (sI g14 (hR g14 a0 3) ((37 : Int32) * a1).toNatClampNeg (1 : Int32)) (fun g19 =>
  if kc g19 (hR g19 a0 3) = 8 then
  if ix (((37 : Int32) * a1) + (1 : Int32)) (kl g19 (hR g19 a0 3)) then
  lt (sI g19 (hR g19 a0 3) (((37 : Int32) * a1) + (1 : Int32)).toNatClampNeg a2) (fun g24 =>
  if kc g24 (hR g24 a0 3) = 8 then
  if ix (((37 : Int32) * a1) + (2 : Int32)) (kl g24 (hR g24 a0 3)) then
  lt (sI g24 (hR g24 a0 3) (((37 : Int32) * a1) + (2 : Int32)).toNatClampNeg a3) (fun g29 =>
  if kc g29 (hR g29 a0 3) = 8 then
  if ix (((37 : Int32) * a1) + (3 : Int32)) (kl g29 (hR g29 a0 3)) then
  lt (sI g29 (hR g29 a0 3) (((37 : Int32) * a1) + (3 : Int32)).toNatClampNeg (0 : Int32)) (fun g34 =>
  bd (fX7_tell a0 (1 : Int32) g34) (fun w39 g37 =>
  some (w39, g37)))
  else none
  else none)
  else none
  else none)
  else none
  else none)
  else none
  else none))))))))
  else none
theorem pX7_dot_b21 {h0 : xH}    (a0 : Nat) (h : xH) : S emI kX7_dot h0 21 [(0, .ref a0)] [] h (fX7_dot_b21  a0 h) := by
  unfold fX7_dot_b21
  refine s_aload_n (pc := 21) (k0 := 0) (i := 0) rfl 0 rfl (by decide +kernel) ?_
  refine s_iconst (pc := 22) (n := -1) (v := (-1 : Int32)) (by decide) (by decide +kernel) ?_
  refine S_gd (fun c1 => ?_)
  refine s_cVi (pc := 23) [.int (-1 : Int32)] (tX7_refuse a0 (-1 : Int32) h) c1 cw_X7_138 rfl ⟨⟨Nat.le_of_ble_eq_true rfl, Nat.le_of_ble_eq_true rfl⟩, Nat.le_of_ble_eq_true rfl⟩ rfl (by decide +kernel) (fun w4 g2 e3 => ?_)
  exact s_iret (pc := 26) rfl (by decide +kernel)
theorem pX7_dot_e    (a0 : Nat) (a1 : Int32) (a2 : Int32) (a3 : Int32) (h : xH) : S emI kX7_dot h 0 [(0, .ref a0), (1, .int a1), (2, .int a2), (3, .int a3)] [] h (fX7_dot  a0 a1 a2 a3 h) := by
  unfold fX7_dot
  refine s_aload_n (pc := 0) (k0 := 0) (i := 0) rfl 0 rfl (by decide +kernel) ?_
  refine s_iconst (pc := 1) (n := 0) (v := (0 : Int32)) (by decide) (by decide +kernel) ?_
  refine S_gd (fun c1 => ?_)
  refine s_putI (pc := 2) (k := 0) c1 ft_X7_107 (fw_7_0 _ _) rfl rfl (by decide +kernel) ?_
  refine s_nmH (o := h) rfl (fun g2 e3 => ?_)
  refine s_iload_n (pc := 5) (k0 := 2) (i := 2) rfl 2 rfl (by decide +kernel) ?_
  refine s_i2l (pc := 6) (by decide +kernel) ?_
  refine s_cSi (pc := 7) [.long a2.toInt64] (tX7_isPlace a2.toInt64 g2) cw_X7_270 rfl ⟨⟨Nat.le_of_ble_eq_true rfl, Nat.le_of_ble_eq_true rfl⟩, Nat.le_of_ble_eq_true rfl⟩ rfl (by decide +kernel) (fun w6 g4 e5 => ?_)
  refine s_if_eq (pc := 10) (off := 11) 21 (by decide +kernel) (by decide) (fun _ => ?_) (fun _ => ?_)
  · refine S_sub [0] rfl ?_
    exact pX7_dot_b21 a0 g4
  · refine s_iload_n (pc := 13) (k0 := 3) (i := 3) rfl 3 rfl (by decide +kernel) ?_
    refine s_i2l (pc := 14) (by decide +kernel) ?_
    refine s_cSi (pc := 15) [.long a3.toInt64] (tX7_isPlace a3.toInt64 g4) cw_X7_270 rfl ⟨⟨Nat.le_of_ble_eq_true rfl, Nat.le_of_ble_eq_true rfl⟩, Nat.le_of_ble_eq_true rfl⟩ rfl (by decide +kernel) (fun w9 g7 e8 => ?_)
    refine s_if_ne (pc := 18) (off := 9) 27 (by decide +kernel) (by decide) (fun _ => ?_) (fun _ => ?_)
    · refine S_sub [0] rfl ?_
      exact pX7_dot_b21 a0 g7
    · refine s_iload_n (pc := 27) (k0 := 1) (i := 1) rfl 1 rfl (by decide +kernel) ?_
      refine s_cSi (pc := 28) [.int a1] (tX7_isStore a1 g7) cw_X7_247 rfl ⟨⟨Nat.le_of_ble_eq_true rfl, Nat.le_of_ble_eq_true rfl⟩, Nat.le_of_ble_eq_true rfl⟩ rfl (by decide +kernel) (fun w12 g10 e11 => ?_)
      refine s_if_ne (pc := 31) (off := 10) 41 (by decide +kernel) (by decide) (fun _ => ?_) (fun _ => ?_)
      · refine s_aload_n (pc := 34) (k0 := 0) (i := 0) rfl 0 rfl (by decide +kernel) ?_
        refine s_bipush (pc := 35) (n := -2) (v := (-2 : Int32)) (by decide) (by decide +kernel) ?_
        have c40 := kp (Le.tr e3 (Le.tr e5 (Le.tr e8 e11))) c1 (by decide)
        refine s_cVi (pc := 37) [.int (-2 : Int32)] (tX7_refuse a0 (-2 : Int32) g10) c40 cw_X7_138 rfl ⟨⟨Nat.le_of_ble_eq_true rfl, Nat.le_of_ble_eq_true rfl⟩, Nat.le_of_ble_eq_true rfl⟩ rfl (by decide +kernel) (fun w43 g41 e42 => ?_)
        exact s_iret (pc := 40) rfl (by decide +kernel)
      · refine s_aload_n (pc := 41) (k0 := 0) (i := 0) rfl 0 rfl (by decide +kernel) ?_
        refine s_iconst (pc := 42) (n := 1) (v := (1 : Int32)) (by decide) (by decide +kernel) ?_
        have c13 := kp (Le.tr e3 (Le.tr e5 (Le.tr e8 e11))) c1 (by decide)
        refine s_cVv (pc := 43) [.int (1 : Int32)] (tX7_remember a0 (1 : Int32) g10) c13 cw_X7_241 rfl ⟨⟨Nat.le_of_ble_eq_true rfl, Nat.le_of_ble_eq_true rfl⟩, Nat.le_of_ble_eq_true rfl⟩ rfl (by decide +kernel) (fun _ g14 e15 => ?_)
        refine s_aload_n (pc := 46) (k0 := 0) (i := 0) rfl 0 rfl (by decide +kernel) ?_
        have c16 := kp e15 c13 (by decide)
        refine s_getR (pc := 47) (k := 3) c16 ft_X7_15 rfl (by decide +kernel) ?_
        refine s_bipush (pc := 50) (n := 37) (v := (37 : Int32)) (by decide) (by decide +kernel) ?_
        refine s_iload_n (pc := 52) (k0 := 1) (i := 1) rfl 1 rfl (by decide +kernel) ?_
        refine s_imul (pc := 53) (by decide +kernel) ?_
        refine s_iconst (pc := 54) (n := 1) (v := (1 : Int32)) (by decide) (by decide +kernel) ?_
        refine S_gd (fun c17 => ?_)
        refine S_gd (fun c18 => ?_)
        refine s_iast (pc := 55) c17 c18 (by decide +kernel) ?_
        refine s_nmH (o := g14) rfl (fun g19 e20 => ?_)
        refine s_aload_n (pc := 56) (k0 := 0) (i := 0) rfl 0 rfl (by decide +kernel) ?_
        have c21 := kp e20 c16 (by decide)
        refine s_getR (pc := 57) (k := 3) c21 ft_X7_15 rfl (by decide +kernel) ?_
        refine s_bipush (pc := 60) (n := 37) (v := (37 : Int32)) (by decide) (by decide +kernel) ?_
        refine s_iload_n (pc := 62) (k0 := 1) (i := 1) rfl 1 rfl (by decide +kernel) ?_
        refine s_imul (pc := 63) (by decide +kernel) ?_
        refine s_iconst (pc := 64) (n := 1) (v := (1 : Int32)) (by decide) (by decide +kernel) ?_
        refine s_iadd (pc := 65) (by decide +kernel) ?_
        refine s_iload_n (pc := 66) (k0 := 2) (i := 2) rfl 2 rfl (by decide +kernel) ?_
        refine S_gd (fun c22 => ?_)
        refine S_gd (fun c23 => ?_)
        refine s_iast (pc := 67) c22 c23 (by decide +kernel) ?_
        refine s_nmH (o := g19) rfl (fun g24 e25 => ?_)
        refine s_aload_n (pc := 68) (k0 := 0) (i := 0) rfl 0 rfl (by decide +kernel) ?_
        have c26 := kp e25 c21 (by decide)
        refine s_getR (pc := 69) (k := 3) c26 ft_X7_15 rfl (by decide +kernel) ?_
        refine s_bipush (pc := 72) (n := 37) (v := (37 : Int32)) (by decide) (by decide +kernel) ?_
        refine s_iload_n (pc := 74) (k0 := 1) (i := 1) rfl 1 rfl (by decide +kernel) ?_
        refine s_imul (pc := 75) (by decide +kernel) ?_
        refine s_iconst (pc := 76) (n := 2) (v := (2 : Int32)) (by decide) (by decide +kernel) ?_
        refine s_iadd (pc := 77) (by decide +kernel) ?_
        refine s_iload_n (pc := 78) (k0 := 3) (i := 3) rfl 3 rfl (by decide +kernel) ?_
        refine S_gd (fun c27 => ?_)
        refine S_gd (fun c28 => ?_)
        refine s_iast (pc := 79) c27 c28 (by decide +kernel) ?_
        refine s_nmH (o := g24) rfl (fun g29 e30 => ?_)
        refine s_aload_n (pc := 80) (k0 := 0) (i := 0) rfl 0 rfl (by decide +kernel) ?_
        have c31 := kp e30 c26 (by decide)
        refine s_getR (pc := 81) (k := 3) c31 ft_X7_15 rfl (by decide +kernel) ?_
        refine s_bipush (pc := 84) (n := 37) (v := (37 : Int32)) (by decide) (by decide +kernel) ?_
        refine s_iload_n (pc := 86) (k0 := 1) (i := 1) rfl 1 rfl (by decide +kernel) ?_
        refine s_imul (pc := 87) (by decide +kernel) ?_
        refine s_iconst (pc := 88) (n := 3) (v := (3 : Int32)) (by decide) (by decide +kernel) ?_
        refine s_iadd (pc := 89) (by decide +kernel) ?_
        refine s_iconst (pc := 90) (n := 0) (v := (0 : Int32)) (by decide) (by decide +kernel) ?_
        refine S_gd (fun c32 => ?_)
        refine S_gd (fun c33 => ?_)
        refine s_iast (pc := 91) c32 c33 (by decide +kernel) ?_
        refine s_nmH (o := g29) rfl (fun g34 e35 => ?_)
        refine s_aload_n (pc := 92) (k0 := 0) (i := 0) rfl 0 rfl (by decide +kernel) ?_
        refine s_iconst (pc := 93) (n := 1) (v := (1 : Int32)) (by decide) (by decide +kernel) ?_
        have c36 := kp e35 c31 (by decide)
        refine s_cVi (pc := 94) [.int (1 : Int32)] (tX7_tell a0 (1 : Int32) g34) c36 cw_X7_145 rfl ⟨⟨Nat.le_of_ble_eq_true rfl, Nat.le_of_ble_eq_true rfl⟩, Nat.le_of_ble_eq_true rfl⟩ rfl (by decide +kernel) (fun w39 g37 e38 => ?_)
        exact s_iret (pc := 97) rfl (by decide +kernel)
theorem tX7_dot (a0 : Nat) (a1 : Int32) (a2 : Int32) (a3 : Int32) (h : xH) : Ct yX7_dot kX7_dot emI [.ref a0, .int a1, .int a2, .int a3] h (fX7_dot a0 a1 a2 a3 h) := Ct_of (by decide +kernel) rfl rfl rfl (Nat.le_of_ble_eq_true rfl) rfl (pX7_dot_e a0 a1 a2 a3 h)
def fX7_many   (a0 : Nat) (a1 : Int32) (h : xH) : Option (Int32 × xH) :=
  if kc h a0 = 7 then
  if kc h (hR h a0 3) = 8 then
  if ix ((37 : Int32) * a1) (kl h (hR h a0 3)) then
  some ((hI h (hR h a0 3) ((37 : Int32) * a1).toNatClampNeg), h)
  else none
  else none
  else none
theorem pX7_many_e    (a0 : Nat) (a1 : Int32) (h : xH) : S emI kX7_many h 0 [(0, .ref a0), (1, .int a1)] [] h (fX7_many  a0 a1 h) := by
  unfold fX7_many
  refine s_aload_n (pc := 0) (k0 := 0) (i := 0) rfl 0 rfl (by decide +kernel) ?_
  refine S_gd (fun c1 => ?_)
  refine s_getR (pc := 1) (k := 3) c1 ft_X7_15 rfl (by decide +kernel) ?_
  refine s_bipush (pc := 4) (n := 37) (v := (37 : Int32)) (by decide) (by decide +kernel) ?_
  refine s_iload_n (pc := 6) (k0 := 1) (i := 1) rfl 1 rfl (by decide +kernel) ?_
  refine s_imul (pc := 7) (by decide +kernel) ?_
  refine S_gd (fun c2 => ?_)
  refine S_gd (fun c3 => ?_)
  refine s_iald (pc := 8) c2 c3 (by decide +kernel) ?_
  exact s_iret (pc := 9) rfl (by decide +kernel)
theorem tX7_many (a0 : Nat) (a1 : Int32) (h : xH) : Ct yX7_many kX7_many emI [.ref a0, .int a1] h (fX7_many a0 a1 h) := Ct_of (by decide +kernel) rfl rfl rfl (Nat.le_of_ble_eq_true rfl) rfl (pX7_many_e a0 a1 h)
def fX7_clear   (a0 : Nat) (a1 : Int32) (h : xH) : Option (Int32 × xH) :=
  if kc h a0 = 7 then
  lt (sI h a0 0 (0 : Int32)) (fun g2 =>
  bd (fX7_isStore a1 g2) (fun w6 g4 =>
  if w6 = 0 then (
  bd (fX7_refuse a0 (-2 : Int32) g4) (fun w26 g24 =>
  some (w26, g24)))
  else (
  bd (fX7_remember a0 (2 : Int32) g4) (fun _ g8 =>
  bd (fX7_many a0 a1 g8) (fun w13 g11 =>
  if kc g11 (hR g11 a0 3) = 8 then
  if ix ((37 : Int32) * a1) (kl g11 (hR g11 a0 3)) then
  lt (sI g11 (hR g11 a0 3) ((37 : Int32) * a1).toNatClampNeg (0 : Int32)) (fun g17 =>
  bd (fX7_tell a0 w13 g17) (fun w22 g20 =>
  some (w22, g20)))
  else none
  else none)))))
  else none
theorem pX7_clear_e    (a0 : Nat) (a1 : Int32) (h : xH) : S emI kX7_clear h 0 [(0, .ref a0), (1, .int a1)] [] h (fX7_clear  a0 a1 h) := by
  unfold fX7_clear
  refine s_aload_n (pc := 0) (k0 := 0) (i := 0) rfl 0 rfl (by decide +kernel) ?_
  refine s_iconst (pc := 1) (n := 0) (v := (0 : Int32)) (by decide) (by decide +kernel) ?_
  refine S_gd (fun c1 => ?_)
  refine s_putI (pc := 2) (k := 0) c1 ft_X7_107 (fw_7_0 _ _) rfl rfl (by decide +kernel) ?_
  refine s_nmH (o := h) rfl (fun g2 e3 => ?_)
  refine s_iload_n (pc := 5) (k0 := 1) (i := 1) rfl 1 rfl (by decide +kernel) ?_
  refine s_cSi (pc := 6) [.int a1] (tX7_isStore a1 g2) cw_X7_247 rfl ⟨⟨Nat.le_of_ble_eq_true rfl, Nat.le_of_ble_eq_true rfl⟩, Nat.le_of_ble_eq_true rfl⟩ rfl (by decide +kernel) (fun w6 g4 e5 => ?_)
  refine s_if_ne (pc := 9) (off := 10) 19 (by decide +kernel) (by decide) (fun _ => ?_) (fun _ => ?_)
  · refine s_aload_n (pc := 12) (k0 := 0) (i := 0) rfl 0 rfl (by decide +kernel) ?_
    refine s_bipush (pc := 13) (n := -2) (v := (-2 : Int32)) (by decide) (by decide +kernel) ?_
    have c23 := kp (Le.tr e3 e5) c1 (by decide)
    refine s_cVi (pc := 15) [.int (-2 : Int32)] (tX7_refuse a0 (-2 : Int32) g4) c23 cw_X7_138 rfl ⟨⟨Nat.le_of_ble_eq_true rfl, Nat.le_of_ble_eq_true rfl⟩, Nat.le_of_ble_eq_true rfl⟩ rfl (by decide +kernel) (fun w26 g24 e25 => ?_)
    exact s_iret (pc := 18) rfl (by decide +kernel)
  · refine s_aload_n (pc := 19) (k0 := 0) (i := 0) rfl 0 rfl (by decide +kernel) ?_
    refine s_iconst (pc := 20) (n := 2) (v := (2 : Int32)) (by decide) (by decide +kernel) ?_
    have c7 := kp (Le.tr e3 e5) c1 (by decide)
    refine s_cVv (pc := 21) [.int (2 : Int32)] (tX7_remember a0 (2 : Int32) g4) c7 cw_X7_241 rfl ⟨⟨Nat.le_of_ble_eq_true rfl, Nat.le_of_ble_eq_true rfl⟩, Nat.le_of_ble_eq_true rfl⟩ rfl (by decide +kernel) (fun _ g8 e9 => ?_)
    refine s_aload_n (pc := 24) (k0 := 0) (i := 0) rfl 0 rfl (by decide +kernel) ?_
    refine s_iload_n (pc := 25) (k0 := 1) (i := 1) rfl 1 rfl (by decide +kernel) ?_
    have c10 := kp e9 c7 (by decide)
    refine s_cVi (pc := 26) [.int a1] (tX7_many a0 a1 g8) c10 cw_X7_168 rfl ⟨⟨Nat.le_of_ble_eq_true rfl, Nat.le_of_ble_eq_true rfl⟩, Nat.le_of_ble_eq_true rfl⟩ rfl (by decide +kernel) (fun w13 g11 e12 => ?_)
    refine s_istore_n (pc := 29) (L' := [(2, .int w13), (0, .ref a0), (1, .int a1)]) (k0 := 2) (i := 2) rfl (by decide) rfl (by decide +kernel) ?_
    refine s_aload_n (pc := 30) (k0 := 0) (i := 0) rfl 1 rfl (by decide +kernel) ?_
    have c14 := kp e12 c10 (by decide)
    refine s_getR (pc := 31) (k := 3) c14 ft_X7_15 rfl (by decide +kernel) ?_
    refine s_bipush (pc := 34) (n := 37) (v := (37 : Int32)) (by decide) (by decide +kernel) ?_
    refine s_iload_n (pc := 36) (k0 := 1) (i := 1) rfl 2 rfl (by decide +kernel) ?_
    refine s_imul (pc := 37) (by decide +kernel) ?_
    refine s_iconst (pc := 38) (n := 0) (v := (0 : Int32)) (by decide) (by decide +kernel) ?_
    refine S_gd (fun c15 => ?_)
    refine S_gd (fun c16 => ?_)
    refine s_iast (pc := 39) c15 c16 (by decide +kernel) ?_
    refine s_nmH (o := g11) rfl (fun g17 e18 => ?_)
    refine s_aload_n (pc := 40) (k0 := 0) (i := 0) rfl 1 rfl (by decide +kernel) ?_
    refine s_iload_n (pc := 41) (k0 := 2) (i := 2) rfl 0 rfl (by decide +kernel) ?_
    have c19 := kp e18 c14 (by decide)
    refine s_cVi (pc := 42) [.int w13] (tX7_tell a0 w13 g17) c19 cw_X7_145 rfl ⟨⟨Nat.le_of_ble_eq_true rfl, Nat.le_of_ble_eq_true rfl⟩, Nat.le_of_ble_eq_true rfl⟩ rfl (by decide +kernel) (fun w22 g20 e21 => ?_)
    exact s_iret (pc := 45) rfl (by decide +kernel)
theorem tX7_clear (a0 : Nat) (a1 : Int32) (h : xH) : Ct yX7_clear kX7_clear emI [.ref a0, .int a1] h (fX7_clear a0 a1 h) := Ct_of (by decide +kernel) rfl rfl rfl (Nat.le_of_ble_eq_true rfl) rfl (pX7_clear_e a0 a1 h)
def fX7_goes   (a0 : Nat) (a1 : Int32) (a2 : Int32) (h : xH) : Option (Int32 × xH) :=
  if kc h a0 = 7 then
  if kc h (hR h a0 3) = 8 then
  if ix ((((37 : Int32) * a1) + (3 : Int32)) + ((3 : Int32) * a2)) (kl h (hR h a0 3)) then
  if (hI h (hR h a0 3) ((((37 : Int32) * a1) + (3 : Int32)) + ((3 : Int32) * a2)).toNatClampNeg) = (1 : Int32) then (
  some ((1 : Int32), h))
  else (
  some ((0 : Int32), h))
  else none
  else none
  else none
theorem pX7_goes_e    (a0 : Nat) (a1 : Int32) (a2 : Int32) (h : xH) : S emI kX7_goes h 0 [(0, .ref a0), (1, .int a1), (2, .int a2)] [] h (fX7_goes  a0 a1 a2 h) := by
  unfold fX7_goes
  refine s_aload_n (pc := 0) (k0 := 0) (i := 0) rfl 0 rfl (by decide +kernel) ?_
  refine S_gd (fun c1 => ?_)
  refine s_getR (pc := 1) (k := 3) c1 ft_X7_15 rfl (by decide +kernel) ?_
  refine s_bipush (pc := 4) (n := 37) (v := (37 : Int32)) (by decide) (by decide +kernel) ?_
  refine s_iload_n (pc := 6) (k0 := 1) (i := 1) rfl 1 rfl (by decide +kernel) ?_
  refine s_imul (pc := 7) (by decide +kernel) ?_
  refine s_iconst (pc := 8) (n := 3) (v := (3 : Int32)) (by decide) (by decide +kernel) ?_
  refine s_iadd (pc := 9) (by decide +kernel) ?_
  refine s_iconst (pc := 10) (n := 3) (v := (3 : Int32)) (by decide) (by decide +kernel) ?_
  refine s_iload_n (pc := 11) (k0 := 2) (i := 2) rfl 2 rfl (by decide +kernel) ?_
  refine s_imul (pc := 12) (by decide +kernel) ?_
  refine s_iadd (pc := 13) (by decide +kernel) ?_
  refine S_gd (fun c2 => ?_)
  refine S_gd (fun c3 => ?_)
  refine s_iald (pc := 14) c2 c3 (by decide +kernel) ?_
  refine s_iconst (pc := 15) (n := 1) (v := (1 : Int32)) (by decide) (by decide +kernel) ?_
  refine s_icmp_ne (pc := 16) (off := 7) 23 (by decide +kernel) (by decide) (fun _ => ?_) (fun _ => ?_)
  · refine s_iconst (pc := 19) (n := 1) (v := (1 : Int32)) (by decide) (by decide +kernel) ?_
    refine s_goto (pc := 20) (off := 4) 24 (by decide +kernel) (by decide) ?_
    exact s_zret (pc := 24) (by decide) rfl (by decide +kernel)
  · refine s_iconst (pc := 23) (n := 0) (v := (0 : Int32)) (by decide) (by decide +kernel) ?_
    exact s_zret (pc := 24) (by decide) rfl (by decide +kernel)
theorem tX7_goes (a0 : Nat) (a1 : Int32) (a2 : Int32) (h : xH) : Ct yX7_goes kX7_goes emI [.ref a0, .int a1, .int a2] h (fX7_goes a0 a1 a2 h) := Ct_of (by decide +kernel) rfl rfl rfl (Nat.le_of_ble_eq_true rfl) rfl (pX7_goes_e a0 a1 a2 h)
def fX7_isLone_b24    (h : xH) : Option (Int32 × xH) :=
  some ((1 : Int32), h)
def fX7_isLone   (a0 : Nat) (a1 : Int32) (a2 : Int32) (h : xH) : Option (Int32 × xH) :=
  if kc h a0 = 7 then
  bd (fX7_goes a0 a1 a2 h) (fun w4 g2 =>
  if w4 = 0 then (
  if a2 = 0 then (
  fX7_isLone_b24 g2)
  else (
  bd (fX7_goes a0 a1 (a2 - (1 : Int32)) g2) (fun w8 g6 =>
  if w8 = 0 then (
  fX7_isLone_b24 g6)
  else (
  some ((0 : Int32), g6)))))
  else (
  some ((0 : Int32), g2)))
  else none
theorem pX7_isLone_b24 {h0 : xH}     (h : xH) : S emI kX7_isLone h0 24 [] [] h (fX7_isLone_b24  h) := by
  unfold fX7_isLone_b24
  refine s_iconst (pc := 24) (n := 1) (v := (1 : Int32)) (by decide) (by decide +kernel) ?_
  refine s_goto (pc := 25) (off := 4) 29 (by decide +kernel) (by decide) ?_
  exact s_zret (pc := 29) (by decide) rfl (by decide +kernel)
theorem pX7_isLone_e    (a0 : Nat) (a1 : Int32) (a2 : Int32) (h : xH) : S emI kX7_isLone h 0 [(0, .ref a0), (1, .int a1), (2, .int a2)] [] h (fX7_isLone  a0 a1 a2 h) := by
  unfold fX7_isLone
  refine s_aload_n (pc := 0) (k0 := 0) (i := 0) rfl 0 rfl (by decide +kernel) ?_
  refine s_iload_n (pc := 1) (k0 := 1) (i := 1) rfl 1 rfl (by decide +kernel) ?_
  refine s_iload_n (pc := 2) (k0 := 2) (i := 2) rfl 2 rfl (by decide +kernel) ?_
  refine S_gd (fun c1 => ?_)
  refine s_cVi (pc := 3) [.int a1, .int a2] (tX7_goes a0 a1 a2 h) c1 cw_X7_154 rfl ⟨⟨Nat.le_of_ble_eq_true rfl, Nat.le_of_ble_eq_true rfl⟩, Nat.le_of_ble_eq_true rfl⟩ rfl (by decide +kernel) (fun w4 g2 e3 => ?_)
  refine s_if_ne (pc := 6) (off := 22) 28 (by decide +kernel) (by decide) (fun _ => ?_) (fun _ => ?_)
  · refine s_iload_n (pc := 9) (k0 := 2) (i := 2) rfl 2 rfl (by decide +kernel) ?_
    refine s_if_eq (pc := 10) (off := 14) 24 (by decide +kernel) (by decide) (fun _ => ?_) (fun _ => ?_)
    · refine S_sub [] rfl ?_
      exact pX7_isLone_b24 g2
    · refine s_aload_n (pc := 13) (k0 := 0) (i := 0) rfl 0 rfl (by decide +kernel) ?_
      refine s_iload_n (pc := 14) (k0 := 1) (i := 1) rfl 1 rfl (by decide +kernel) ?_
      refine s_iload_n (pc := 15) (k0 := 2) (i := 2) rfl 2 rfl (by decide +kernel) ?_
      refine s_iconst (pc := 16) (n := 1) (v := (1 : Int32)) (by decide) (by decide +kernel) ?_
      refine s_isub (pc := 17) (by decide +kernel) ?_
      have c5 := kp e3 c1 (by decide)
      refine s_cVi (pc := 18) [.int a1, .int (a2 - (1 : Int32))] (tX7_goes a0 a1 (a2 - (1 : Int32)) g2) c5 cw_X7_154 rfl ⟨⟨Nat.le_of_ble_eq_true rfl, Nat.le_of_ble_eq_true rfl⟩, Nat.le_of_ble_eq_true rfl⟩ rfl (by decide +kernel) (fun w8 g6 e7 => ?_)
      refine s_if_ne (pc := 21) (off := 7) 28 (by decide +kernel) (by decide) (fun _ => ?_) (fun _ => ?_)
      · refine S_sub [] rfl ?_
        exact pX7_isLone_b24 g6
      · refine s_iconst (pc := 28) (n := 0) (v := (0 : Int32)) (by decide) (by decide +kernel) ?_
        exact s_zret (pc := 29) (by decide) rfl (by decide +kernel)
  · refine s_iconst (pc := 28) (n := 0) (v := (0 : Int32)) (by decide) (by decide +kernel) ?_
    exact s_zret (pc := 29) (by decide) rfl (by decide +kernel)
theorem tX7_isLone (a0 : Nat) (a1 : Int32) (a2 : Int32) (h : xH) : Ct yX7_isLone kX7_isLone emI [.ref a0, .int a1, .int a2] h (fX7_isLone a0 a1 a2 h) := Ct_of (by decide +kernel) rfl rfl rfl (Nat.le_of_ble_eq_true rfl) rfl (pX7_isLone_e a0 a1 a2 h)
def fX7_xOf   (a0 : Nat) (a1 : Int32) (a2 : Int32) (h : xH) : Option (Int32 × xH) :=
  if kc h a0 = 7 then
  if kc h (hR h a0 3) = 8 then
  if ix ((((37 : Int32) * a1) + (1 : Int32)) + ((3 : Int32) * a2)) (kl h (hR h a0 3)) then
  some ((hI h (hR h a0 3) ((((37 : Int32) * a1) + (1 : Int32)) + ((3 : Int32) * a2)).toNatClampNeg), h)
  else none
  else none
  else none
theorem pX7_xOf_e    (a0 : Nat) (a1 : Int32) (a2 : Int32) (h : xH) : S emI kX7_xOf h 0 [(0, .ref a0), (1, .int a1), (2, .int a2)] [] h (fX7_xOf  a0 a1 a2 h) := by
  unfold fX7_xOf
  refine s_aload_n (pc := 0) (k0 := 0) (i := 0) rfl 0 rfl (by decide +kernel) ?_
  refine S_gd (fun c1 => ?_)
  refine s_getR (pc := 1) (k := 3) c1 ft_X7_15 rfl (by decide +kernel) ?_
  refine s_bipush (pc := 4) (n := 37) (v := (37 : Int32)) (by decide) (by decide +kernel) ?_
  refine s_iload_n (pc := 6) (k0 := 1) (i := 1) rfl 1 rfl (by decide +kernel) ?_
  refine s_imul (pc := 7) (by decide +kernel) ?_
  refine s_iconst (pc := 8) (n := 1) (v := (1 : Int32)) (by decide) (by decide +kernel) ?_
  refine s_iadd (pc := 9) (by decide +kernel) ?_
  refine s_iconst (pc := 10) (n := 3) (v := (3 : Int32)) (by decide) (by decide +kernel) ?_
  refine s_iload_n (pc := 11) (k0 := 2) (i := 2) rfl 2 rfl (by decide +kernel) ?_
  refine s_imul (pc := 12) (by decide +kernel) ?_
  refine s_iadd (pc := 13) (by decide +kernel) ?_
  refine S_gd (fun c2 => ?_)
  refine S_gd (fun c3 => ?_)
  refine s_iald (pc := 14) c2 c3 (by decide +kernel) ?_
  exact s_iret (pc := 15) rfl (by decide +kernel)
theorem tX7_xOf (a0 : Nat) (a1 : Int32) (a2 : Int32) (h : xH) : Ct yX7_xOf kX7_xOf emI [.ref a0, .int a1, .int a2] h (fX7_xOf a0 a1 a2 h) := Ct_of (by decide +kernel) rfl rfl rfl (Nat.le_of_ble_eq_true rfl) rfl (pX7_xOf_e a0 a1 a2 h)
def fX7_yOf   (a0 : Nat) (a1 : Int32) (a2 : Int32) (h : xH) : Option (Int32 × xH) :=
  if kc h a0 = 7 then
  if kc h (hR h a0 3) = 8 then
  if ix ((((37 : Int32) * a1) + (2 : Int32)) + ((3 : Int32) * a2)) (kl h (hR h a0 3)) then
  some ((hI h (hR h a0 3) ((((37 : Int32) * a1) + (2 : Int32)) + ((3 : Int32) * a2)).toNatClampNeg), h)
  else none
  else none
  else none
theorem pX7_yOf_e    (a0 : Nat) (a1 : Int32) (a2 : Int32) (h : xH) : S emI kX7_yOf h 0 [(0, .ref a0), (1, .int a1), (2, .int a2)] [] h (fX7_yOf  a0 a1 a2 h) := by
  unfold fX7_yOf
  refine s_aload_n (pc := 0) (k0 := 0) (i := 0) rfl 0 rfl (by decide +kernel) ?_
  refine S_gd (fun c1 => ?_)
  refine s_getR (pc := 1) (k := 3) c1 ft_X7_15 rfl (by decide +kernel) ?_
  refine s_bipush (pc := 4) (n := 37) (v := (37 : Int32)) (by decide) (by decide +kernel) ?_
  refine s_iload_n (pc := 6) (k0 := 1) (i := 1) rfl 1 rfl (by decide +kernel) ?_
  refine s_imul (pc := 7) (by decide +kernel) ?_
  refine s_iconst (pc := 8) (n := 2) (v := (2 : Int32)) (by decide) (by decide +kernel) ?_
  refine s_iadd (pc := 9) (by decide +kernel) ?_
  refine s_iconst (pc := 10) (n := 3) (v := (3 : Int32)) (by decide) (by decide +kernel) ?_
  refine s_iload_n (pc := 11) (k0 := 2) (i := 2) rfl 2 rfl (by decide +kernel) ?_
  refine s_imul (pc := 12) (by decide +kernel) ?_
  refine s_iadd (pc := 13) (by decide +kernel) ?_
  refine S_gd (fun c2 => ?_)
  refine S_gd (fun c3 => ?_)
  refine s_iald (pc := 14) c2 c3 (by decide +kernel) ?_
  exact s_iret (pc := 15) rfl (by decide +kernel)
theorem tX7_yOf (a0 : Nat) (a1 : Int32) (a2 : Int32) (h : xH) : Ct yX7_yOf kX7_yOf emI [.ref a0, .int a1, .int a2] h (fX7_yOf a0 a1 a2 h) := Ct_of (by decide +kernel) rfl rfl rfl (Nat.le_of_ble_eq_true rfl) rfl (pX7_yOf_e a0 a1 a2 h)
def fX7_laySpans_b132 (r7 : Nat → Int32 → Int32 → Int32 → xH → Option (Unit × xH))  (a0 : Nat) (a1 : Int32) (a2 : Int32) (a3 : Int32) (h : xH) : Option (Unit × xH) :=
  lt (a3 + (1 : Int32)) (fun v1 =>
  r7 a0 a1 a2 v1 h)
def fX7_laySpans_b50 (r7 : Nat → Int32 → Int32 → Int32 → xH → Option (Unit × xH)) (s0 : Int32) (a0 : Nat) (a1 : Int32) (a2 : Int32) (a3 : Int32) (h : xH) : Option (Unit × xH) :=
  if kc h a0 = 7 then
  lt (a2 + ((4 : Int32) * (hI h a0 26))) (fun v2 =>
  bd (fX7_xOf a0 a1 a3 h) (fun w5 g3 =>
  if kc g3 (hR h a0 25) = 8 then
  if ix v2 (kl g3 (hR h a0 25)) then
  lt (sI g3 (hR h a0 25) v2.toNatClampNeg w5) (fun g8 =>
  bd (fX7_yOf a0 a1 a3 g8) (fun w13 g11 =>
  if kc g11 (hR g8 a0 25) = 8 then
  if ix (v2 + (1 : Int32)) (kl g11 (hR g8 a0 25)) then
  lt (sI g11 (hR g8 a0 25) (v2 + (1 : Int32)).toNatClampNeg w13) (fun g16 =>
  bd (fX7_xOf a0 a1 s0 g16) (fun w21 g19 =>
  if kc g19 (hR g16 a0 25) = 8 then
  if ix (v2 + (2 : Int32)) (kl g19 (hR g16 a0 25)) then
  lt (sI g19 (hR g16 a0 25) (v2 + (2 : Int32)).toNatClampNeg w21) (fun g24 =>
  bd (fX7_yOf a0 a1 s0 g24) (fun w29 g27 =>
  if kc g27 (hR g24 a0 25) = 8 then
  if ix (v2 + (3 : Int32)) (kl g27 (hR g24 a0 25)) then
  lt (sI g27 (hR g24 a0 25) (v2 + (3 : Int32)).toNatClampNeg w29) (fun g32 =>
  lt (sI g32 a0 26 ((hI g32 a0 26) + (1 : Int32))) (fun g35 =>
  fX7_laySpans_b132 r7 a0 a1 a2 a3 g35))
  else none
  else none))
  else none
  else none))
  else none
  else none))
  else none
  else none))
  else none
def fX7_laySpans_b38 (r7 : Nat → Int32 → Int32 → Int32 → xH → Option (Unit × xH))  (a0 : Nat) (a1 : Int32) (a2 : Int32) (a3 : Int32) (a4 : Int32) (h : xH) : Option (Unit × xH) :=
  if a4 = 0 then (
  fX7_laySpans_b50 r7 (a3 + (1 : Int32)) a0 a1 a2 a3 h)
  else (
  fX7_laySpans_b50 r7 a3 a0 a1 a2 a3 h)
def fX7_laySpans_b7 (r7 : Nat → Int32 → Int32 → Int32 → xH → Option (Unit × xH))  (a0 : Nat) (a1 : Int32) (a2 : Int32) (a3 : Int32) (h : xH) : Option (Unit × xH) :=
  if kc h a0 = 7 then
  bd (fX7_many a0 a1 h) (fun w4 g2 =>
  if w4 ≤ a3 then (
  some ((), g2))
  else (
  bd (fX7_isLone a0 a1 a3 g2) (fun w8 g6 =>
  if w8 = 0 then (
  bd (fX7_goes a0 a1 a3 g6) (fun w12 g10 =>
  if w12 = 0 then (
  fX7_laySpans_b132 r7 a0 a1 a2 a3 g10)
  else (
  fX7_laySpans_b38 r7 a0 a1 a2 a3 w8 g10)))
  else (
  fX7_laySpans_b38 r7 a0 a1 a2 a3 w8 g6))))
  else none
def fX7_laySpans_l7  : Nat → Nat → Int32 → Int32 → Int32 → xH → Option (Unit × xH)
  | 0 => fun _ _ _ _ _ => none
  | k + 1 => fX7_laySpans_b7 (fX7_laySpans_l7  k)
def fX7_laySpans   (a0 : Nat) (a1 : Int32) (a2 : Int32) (h : xH) : Option (Unit × xH) :=
  if kc h a0 = 7 then
  lt (sI h a0 26 (0 : Int32)) (fun g2 =>
  lt (0 : Int32) (fun v4 =>
  fX7_laySpans_l7 FU a0 a1 a2 v4 g2))
  else none
theorem pX7_laySpans_b132 {h0 : xH} {r7 : Nat → Int32 → Int32 → Int32 → xH → Option (Unit × xH)} (hr7 : ∀  (a0 : Nat) (a1 : Int32) (a2 : Int32) (a3 : Int32) (g : xH), S emV kX7_laySpans h0 7 [(0, .ref a0), (1, .int a1), (2, .int a2), (3, .int a3)] [] g (r7  a0 a1 a2 a3 g))  (a0 : Nat) (a1 : Int32) (a2 : Int32) (a3 : Int32) (h : xH) : S emV kX7_laySpans h0 132 [(0, .ref a0), (1, .int a1), (2, .int a2), (3, .int a3)] [] h (fX7_laySpans_b132 r7 a0 a1 a2 a3 h) := by
  unfold fX7_laySpans_b132
  refine s_iinc (pc := 132) (L' := [(3, .int (a3 + (1 : Int32))), (0, .ref a0), (1, .int a1), (2, .int a2)]) (i := 3) (n := 1) 3 rfl rfl (by decide) rfl (by decide +kernel) ?_
  refine s_nmI0 (e := a3 + (1 : Int32)) (L := fun v1 => [(3, .int v1), (0, .ref a0), (1, .int a1), (2, .int a2)]) (fun v1 => ?_)
  refine s_goto (pc := 135) (off := -128) 7 (by decide +kernel) (by decide) ?_
  refine S_sub [1, 2, 3, 0] rfl ?_
  exact hr7 a0 a1 a2 v1 h
theorem pX7_laySpans_b50 {h0 : xH} {r7 : Nat → Int32 → Int32 → Int32 → xH → Option (Unit × xH)} (hr7 : ∀  (a0 : Nat) (a1 : Int32) (a2 : Int32) (a3 : Int32) (g : xH), S emV kX7_laySpans h0 7 [(0, .ref a0), (1, .int a1), (2, .int a2), (3, .int a3)] [] g (r7  a0 a1 a2 a3 g)) (s0 : Int32) (a0 : Nat) (a1 : Int32) (a2 : Int32) (a3 : Int32) (h : xH) : S emV kX7_laySpans h0 50 [(0, .ref a0), (1, .int a1), (2, .int a2), (3, .int a3)] [.int s0] h (fX7_laySpans_b50 r7 s0 a0 a1 a2 a3 h) := by
  unfold fX7_laySpans_b50
  refine s_istore (pc := 50) (L' := [(5, .int s0), (0, .ref a0), (1, .int a1), (2, .int a2), (3, .int a3)]) (i := 5) (by decide) rfl (by decide +kernel) ?_
  refine s_iload_n (pc := 52) (k0 := 2) (i := 2) rfl 3 rfl (by decide +kernel) ?_
  refine s_iconst (pc := 53) (n := 4) (v := (4 : Int32)) (by decide) (by decide +kernel) ?_
  refine s_aload_n (pc := 54) (k0 := 0) (i := 0) rfl 1 rfl (by decide +kernel) ?_
  refine S_gd (fun c1 => ?_)
  refine s_getI (pc := 55) (k := 26) c1 ft_X7_165 rfl (by decide +kernel) ?_
  refine s_imul (pc := 58) (by decide +kernel) ?_
  refine s_iadd (pc := 59) (by decide +kernel) ?_
  refine s_nmI (fun v2 => ?_)
  refine s_istore (pc := 60) (L' := [(6, .int v2), (5, .int s0), (0, .ref a0), (1, .int a1), (2, .int a2), (3, .int a3)]) (i := 6) (by decide) rfl (by decide +kernel) ?_
  refine s_aload_n (pc := 62) (k0 := 0) (i := 0) rfl 2 rfl (by decide +kernel) ?_
  refine s_getR (pc := 63) (k := 25) c1 ft_X7_72 rfl (by decide +kernel) ?_
  refine s_iload (pc := 66) (i := 6) 0 rfl (by decide +kernel) ?_
  refine s_aload_n (pc := 68) (k0 := 0) (i := 0) rfl 2 rfl (by decide +kernel) ?_
  refine s_iload_n (pc := 69) (k0 := 1) (i := 1) rfl 3 rfl (by decide +kernel) ?_
  refine s_iload_n (pc := 70) (k0 := 3) (i := 3) rfl 5 rfl (by decide +kernel) ?_
  refine s_cVi (pc := 71) [.int a1, .int a3] (tX7_xOf a0 a1 a3 h) c1 cw_X7_174 rfl ⟨⟨Nat.le_of_ble_eq_true rfl, Nat.le_of_ble_eq_true rfl⟩, Nat.le_of_ble_eq_true rfl⟩ rfl (by decide +kernel) (fun w5 g3 e4 => ?_)
  refine S_gd (fun c6 => ?_)
  refine S_gd (fun c7 => ?_)
  refine s_iast (pc := 74) c6 c7 (by decide +kernel) ?_
  refine s_nmH (o := g3) rfl (fun g8 e9 => ?_)
  refine s_aload_n (pc := 75) (k0 := 0) (i := 0) rfl 2 rfl (by decide +kernel) ?_
  have c10 := kp (Le.tr e4 e9) c1 (by decide)
  refine s_getR (pc := 76) (k := 25) c10 ft_X7_72 rfl (by decide +kernel) ?_
  refine s_iload (pc := 79) (i := 6) 0 rfl (by decide +kernel) ?_
  refine s_iconst (pc := 81) (n := 1) (v := (1 : Int32)) (by decide) (by decide +kernel) ?_
  refine s_iadd (pc := 82) (by decide +kernel) ?_
  refine s_aload_n (pc := 83) (k0 := 0) (i := 0) rfl 2 rfl (by decide +kernel) ?_
  refine s_iload_n (pc := 84) (k0 := 1) (i := 1) rfl 3 rfl (by decide +kernel) ?_
  refine s_iload_n (pc := 85) (k0 := 3) (i := 3) rfl 5 rfl (by decide +kernel) ?_
  refine s_cVi (pc := 86) [.int a1, .int a3] (tX7_yOf a0 a1 a3 g8) c10 cw_X7_178 rfl ⟨⟨Nat.le_of_ble_eq_true rfl, Nat.le_of_ble_eq_true rfl⟩, Nat.le_of_ble_eq_true rfl⟩ rfl (by decide +kernel) (fun w13 g11 e12 => ?_)
  refine S_gd (fun c14 => ?_)
  refine S_gd (fun c15 => ?_)
  refine s_iast (pc := 89) c14 c15 (by decide +kernel) ?_
  refine s_nmH (o := g11) rfl (fun g16 e17 => ?_)
  refine s_aload_n (pc := 90) (k0 := 0) (i := 0) rfl 2 rfl (by decide +kernel) ?_
  have c18 := kp (Le.tr e12 e17) c10 (by decide)
  refine s_getR (pc := 91) (k := 25) c18 ft_X7_72 rfl (by decide +kernel) ?_
  refine s_iload (pc := 94) (i := 6) 0 rfl (by decide +kernel) ?_
  refine s_iconst (pc := 96) (n := 2) (v := (2 : Int32)) (by decide) (by decide +kernel) ?_
  refine s_iadd (pc := 97) (by decide +kernel) ?_
  refine s_aload_n (pc := 98) (k0 := 0) (i := 0) rfl 2 rfl (by decide +kernel) ?_
  refine s_iload_n (pc := 99) (k0 := 1) (i := 1) rfl 3 rfl (by decide +kernel) ?_
  refine s_iload (pc := 100) (i := 5) 1 rfl (by decide +kernel) ?_
  refine s_cVi (pc := 102) [.int a1, .int s0] (tX7_xOf a0 a1 s0 g16) c18 cw_X7_174 rfl ⟨⟨Nat.le_of_ble_eq_true rfl, Nat.le_of_ble_eq_true rfl⟩, Nat.le_of_ble_eq_true rfl⟩ rfl (by decide +kernel) (fun w21 g19 e20 => ?_)
  refine S_gd (fun c22 => ?_)
  refine S_gd (fun c23 => ?_)
  refine s_iast (pc := 105) c22 c23 (by decide +kernel) ?_
  refine s_nmH (o := g19) rfl (fun g24 e25 => ?_)
  refine s_aload_n (pc := 106) (k0 := 0) (i := 0) rfl 2 rfl (by decide +kernel) ?_
  have c26 := kp (Le.tr e20 e25) c18 (by decide)
  refine s_getR (pc := 107) (k := 25) c26 ft_X7_72 rfl (by decide +kernel) ?_
  refine s_iload (pc := 110) (i := 6) 0 rfl (by decide +kernel) ?_
  refine s_iconst (pc := 112) (n := 3) (v := (3 : Int32)) (by decide) (by decide +kernel) ?_
  refine s_iadd (pc := 113) (by decide +kernel) ?_
  refine s_aload_n (pc := 114) (k0 := 0) (i := 0) rfl 2 rfl (by decide +kernel) ?_
  refine s_iload_n (pc := 115) (k0 := 1) (i := 1) rfl 3 rfl (by decide +kernel) ?_
  refine s_iload (pc := 116) (i := 5) 1 rfl (by decide +kernel) ?_
  refine s_cVi (pc := 118) [.int a1, .int s0] (tX7_yOf a0 a1 s0 g24) c26 cw_X7_178 rfl ⟨⟨Nat.le_of_ble_eq_true rfl, Nat.le_of_ble_eq_true rfl⟩, Nat.le_of_ble_eq_true rfl⟩ rfl (by decide +kernel) (fun w29 g27 e28 => ?_)
  refine S_gd (fun c30 => ?_)
  refine S_gd (fun c31 => ?_)
  refine s_iast (pc := 121) c30 c31 (by decide +kernel) ?_
  refine s_nmH (o := g27) rfl (fun g32 e33 => ?_)
  refine s_aload_n (pc := 122) (k0 := 0) (i := 0) rfl 2 rfl (by decide +kernel) ?_
  refine s_dup_a (pc := 123) (by decide +kernel) ?_
  have c34 := kp (Le.tr e28 e33) c26 (by decide)
  refine s_getI (pc := 124) (k := 26) c34 ft_X7_165 rfl (by decide +kernel) ?_
  refine s_iconst (pc := 127) (n := 1) (v := (1 : Int32)) (by decide) (by decide +kernel) ?_
  refine s_iadd (pc := 128) (by decide +kernel) ?_
  refine s_putI (pc := 129) (k := 26) c34 ft_X7_165 (fw_7_26 _ _) rfl rfl (by decide +kernel) ?_
  refine s_nmH (o := g32) rfl (fun g35 e36 => ?_)
  refine S_sub [2, 3, 4, 5] rfl ?_
  exact pX7_laySpans_b132 hr7 a0 a1 a2 a3 g35
theorem pX7_laySpans_b38 {h0 : xH} {r7 : Nat → Int32 → Int32 → Int32 → xH → Option (Unit × xH)} (hr7 : ∀  (a0 : Nat) (a1 : Int32) (a2 : Int32) (a3 : Int32) (g : xH), S emV kX7_laySpans h0 7 [(0, .ref a0), (1, .int a1), (2, .int a2), (3, .int a3)] [] g (r7  a0 a1 a2 a3 g))  (a0 : Nat) (a1 : Int32) (a2 : Int32) (a3 : Int32) (a4 : Int32) (h : xH) : S emV kX7_laySpans h0 38 [(0, .ref a0), (1, .int a1), (2, .int a2), (3, .int a3), (4, .int a4)] [] h (fX7_laySpans_b38 r7 a0 a1 a2 a3 a4 h) := by
  unfold fX7_laySpans_b38
  refine s_iload (pc := 38) (i := 4) 4 rfl (by decide +kernel) ?_
  refine s_if_eq (pc := 40) (off := 7) 47 (by decide +kernel) (by decide) (fun _ => ?_) (fun _ => ?_)
  · refine s_iload_n (pc := 47) (k0 := 3) (i := 3) rfl 3 rfl (by decide +kernel) ?_
    refine s_iconst (pc := 48) (n := 1) (v := (1 : Int32)) (by decide) (by decide +kernel) ?_
    refine s_iadd (pc := 49) (by decide +kernel) ?_
    refine S_sub [0, 1, 2, 3] rfl ?_
    exact pX7_laySpans_b50 hr7 (a3 + (1 : Int32)) a0 a1 a2 a3 h
  · refine s_iload_n (pc := 43) (k0 := 3) (i := 3) rfl 3 rfl (by decide +kernel) ?_
    refine s_goto (pc := 44) (off := 6) 50 (by decide +kernel) (by decide) ?_
    refine S_sub [0, 1, 2, 3] rfl ?_
    exact pX7_laySpans_b50 hr7 a3 a0 a1 a2 a3 h
theorem pX7_laySpans_b7 {h0 : xH} {r7 : Nat → Int32 → Int32 → Int32 → xH → Option (Unit × xH)} (hr7 : ∀  (a0 : Nat) (a1 : Int32) (a2 : Int32) (a3 : Int32) (g : xH), S emV kX7_laySpans h0 7 [(0, .ref a0), (1, .int a1), (2, .int a2), (3, .int a3)] [] g (r7  a0 a1 a2 a3 g))  (a0 : Nat) (a1 : Int32) (a2 : Int32) (a3 : Int32) (h : xH) : S emV kX7_laySpans h0 7 [(0, .ref a0), (1, .int a1), (2, .int a2), (3, .int a3)] [] h (fX7_laySpans_b7 r7 a0 a1 a2 a3 h) := by
  unfold fX7_laySpans_b7
  refine s_iload_n (pc := 7) (k0 := 3) (i := 3) rfl 3 rfl (by decide +kernel) ?_
  refine s_aload_n (pc := 8) (k0 := 0) (i := 0) rfl 0 rfl (by decide +kernel) ?_
  refine s_iload_n (pc := 9) (k0 := 1) (i := 1) rfl 1 rfl (by decide +kernel) ?_
  refine S_gd (fun c1 => ?_)
  refine s_cVi (pc := 10) [.int a1] (tX7_many a0 a1 h) c1 cw_X7_168 rfl ⟨⟨Nat.le_of_ble_eq_true rfl, Nat.le_of_ble_eq_true rfl⟩, Nat.le_of_ble_eq_true rfl⟩ rfl (by decide +kernel) (fun w4 g2 e3 => ?_)
  refine s_icmp_ge (pc := 13) (off := 125) 138 (by decide +kernel) (by decide) (fun _ => ?_) (fun _ => ?_)
  · exact s_vret (pc := 138) rfl (by decide +kernel)
  · refine s_aload_n (pc := 16) (k0 := 0) (i := 0) rfl 0 rfl (by decide +kernel) ?_
    refine s_iload_n (pc := 17) (k0 := 1) (i := 1) rfl 1 rfl (by decide +kernel) ?_
    refine s_iload_n (pc := 18) (k0 := 3) (i := 3) rfl 3 rfl (by decide +kernel) ?_
    have c5 := kp e3 c1 (by decide)
    refine s_cVi (pc := 19) [.int a1, .int a3] (tX7_isLone a0 a1 a3 g2) c5 cw_X7_171 rfl ⟨⟨Nat.le_of_ble_eq_true rfl, Nat.le_of_ble_eq_true rfl⟩, Nat.le_of_ble_eq_true rfl⟩ rfl (by decide +kernel) (fun w8 g6 e7 => ?_)
    refine s_istore (pc := 22) (L' := [(4, .int w8), (0, .ref a0), (1, .int a1), (2, .int a2), (3, .int a3)]) (i := 4) (by decide) rfl (by decide +kernel) ?_
    refine s_iload (pc := 24) (i := 4) 0 rfl (by decide +kernel) ?_
    refine s_if_ne (pc := 26) (off := 12) 38 (by decide +kernel) (by decide) (fun _ => ?_) (fun _ => ?_)
    · refine s_aload_n (pc := 29) (k0 := 0) (i := 0) rfl 1 rfl (by decide +kernel) ?_
      refine s_iload_n (pc := 30) (k0 := 1) (i := 1) rfl 2 rfl (by decide +kernel) ?_
      refine s_iload_n (pc := 31) (k0 := 3) (i := 3) rfl 4 rfl (by decide +kernel) ?_
      have c9 := kp e7 c5 (by decide)
      refine s_cVi (pc := 32) [.int a1, .int a3] (tX7_goes a0 a1 a3 g6) c9 cw_X7_154 rfl ⟨⟨Nat.le_of_ble_eq_true rfl, Nat.le_of_ble_eq_true rfl⟩, Nat.le_of_ble_eq_true rfl⟩ rfl (by decide +kernel) (fun w12 g10 e11 => ?_)
      refine s_if_eq (pc := 35) (off := 97) 132 (by decide +kernel) (by decide) (fun _ => ?_) (fun _ => ?_)
      · refine S_sub [1, 2, 3, 4] rfl ?_
        exact pX7_laySpans_b132 hr7 a0 a1 a2 a3 g10
      · refine S_sub [1, 2, 3, 4, 0] rfl ?_
        exact pX7_laySpans_b38 hr7 a0 a1 a2 a3 w8 g10
    · refine S_sub [1, 2, 3, 4, 0] rfl ?_
      exact pX7_laySpans_b38 hr7 a0 a1 a2 a3 w8 g6
theorem pX7_laySpans_l7 {h0 : xH}   : ∀ (k : Nat)  (a0 : Nat) (a1 : Int32) (a2 : Int32) (a3 : Int32) (h : xH), S emV kX7_laySpans h0 7 [(0, .ref a0), (1, .int a1), (2, .int a2), (3, .int a3)] [] h (fX7_laySpans_l7  k  a0 a1 a2 a3 h) := by
  intro k
  induction k with
  | zero => intros; exact S_none
  | succ k ih => intro  a0 a1 a2 a3 h; exact pX7_laySpans_b7 ih  a0 a1 a2 a3 h
theorem pX7_laySpans_e    (a0 : Nat) (a1 : Int32) (a2 : Int32) (h : xH) : S emV kX7_laySpans h 0 [(0, .ref a0), (1, .int a1), (2, .int a2)] [] h (fX7_laySpans  a0 a1 a2 h) := by
  unfold fX7_laySpans
  refine s_aload_n (pc := 0) (k0 := 0) (i := 0) rfl 0 rfl (by decide +kernel) ?_
  refine s_iconst (pc := 1) (n := 0) (v := (0 : Int32)) (by decide) (by decide +kernel) ?_
  refine S_gd (fun c1 => ?_)
  refine s_putI (pc := 2) (k := 26) c1 ft_X7_165 (fw_7_26 _ _) rfl rfl (by decide +kernel) ?_
  refine s_nmH (o := h) rfl (fun g2 e3 => ?_)
  refine s_iconst (pc := 5) (n := 0) (v := (0 : Int32)) (by decide) (by decide +kernel) ?_
  refine s_nmI (fun v4 => ?_)
  refine s_istore_n (pc := 6) (L' := [(3, .int v4), (0, .ref a0), (1, .int a1), (2, .int a2)]) (k0 := 3) (i := 3) rfl (by decide) rfl (by decide +kernel) ?_
  refine S_sub [1, 2, 3, 0] rfl ?_
  exact pX7_laySpans_l7 FU a0 a1 a2 v4 g2
theorem tX7_laySpans (a0 : Nat) (a1 : Int32) (a2 : Int32) (h : xH) : Ct yX7_laySpans kX7_laySpans emV [.ref a0, .int a1, .int a2] h (fX7_laySpans a0 a1 a2 h) := Ct_of (by decide +kernel) rfl rfl rfl (Nat.le_of_ble_eq_true rfl) rfl (pX7_laySpans_e a0 a1 a2 h)
def fX7_linesOf_b8 (r8 : Nat → Int32 → xH → Option (Unit × xH))  (a0 : Nat) (a2 : Int32) (h : xH) : Option (Unit × xH) :=
  if kc h a0 = 7 then
  if (hI h a0 26) ≤ a2 then (
  some ((), h))
  else (
  if kc h (hR h a0 25) = 8 then
  if ix ((4 : Int32) * a2) (kl h (hR h a0 25)) then
  if ix (((4 : Int32) * a2) + (1 : Int32)) (kl h (hR h a0 25)) then
  if ix (((4 : Int32) * a2) + (2 : Int32)) (kl h (hR h a0 25)) then
  if ix (((4 : Int32) * a2) + (3 : Int32)) (kl h (hR h a0 25)) then
  bd (fX7_lineBy a0 ((hI h (hR h a0 25) ((4 : Int32) * a2).toNatClampNeg).toInt64) ((hI h (hR h a0 25) (((4 : Int32) * a2) + (1 : Int32)).toNatClampNeg).toInt64) ((hI h (hR h a0 25) (((4 : Int32) * a2) + (2 : Int32)).toNatClampNeg).toInt64) ((hI h (hR h a0 25) (((4 : Int32) * a2) + (3 : Int32)).toNatClampNeg).toInt64) h) (fun _ g7 =>
  lt (a2 + (1 : Int32)) (fun v9 =>
  r8 a0 v9 g7))
  else none
  else none
  else none
  else none
  else none)
  else none
def fX7_linesOf_l8  : Nat → Nat → Int32 → xH → Option (Unit × xH)
  | 0 => fun _ _ _ => none
  | k + 1 => fX7_linesOf_b8 (fX7_linesOf_l8  k)
def fX7_linesOf   (a0 : Nat) (a1 : Int32) (h : xH) : Option (Unit × xH) :=
  if kc h a0 = 7 then
  bd (fX7_laySpans a0 a1 (0 : Int32) h) (fun _ g2 =>
  lt (0 : Int32) (fun v4 =>
  fX7_linesOf_l8 FU a0 v4 g2))
  else none
theorem pX7_linesOf_b8 {h0 : xH} {r8 : Nat → Int32 → xH → Option (Unit × xH)} (hr8 : ∀  (a0 : Nat) (a2 : Int32) (g : xH), S emV kX7_linesOf h0 8 [(0, .ref a0), (2, .int a2)] [] g (r8  a0 a2 g))  (a0 : Nat) (a2 : Int32) (h : xH) : S emV kX7_linesOf h0 8 [(0, .ref a0), (2, .int a2)] [] h (fX7_linesOf_b8 r8 a0 a2 h) := by
  unfold fX7_linesOf_b8
  refine s_iload_n (pc := 8) (k0 := 2) (i := 2) rfl 1 rfl (by decide +kernel) ?_
  refine s_aload_n (pc := 9) (k0 := 0) (i := 0) rfl 0 rfl (by decide +kernel) ?_
  refine S_gd (fun c1 => ?_)
  refine s_getI (pc := 10) (k := 26) c1 ft_X7_165 rfl (by decide +kernel) ?_
  refine s_icmp_ge (pc := 13) (off := 55) 68 (by decide +kernel) (by decide) (fun _ => ?_) (fun _ => ?_)
  · exact s_vret (pc := 68) rfl (by decide +kernel)
  · refine s_aload_n (pc := 16) (k0 := 0) (i := 0) rfl 0 rfl (by decide +kernel) ?_
    refine s_aload_n (pc := 17) (k0 := 0) (i := 0) rfl 0 rfl (by decide +kernel) ?_
    refine s_getR (pc := 18) (k := 25) c1 ft_X7_72 rfl (by decide +kernel) ?_
    refine s_iconst (pc := 21) (n := 4) (v := (4 : Int32)) (by decide) (by decide +kernel) ?_
    refine s_iload_n (pc := 22) (k0 := 2) (i := 2) rfl 1 rfl (by decide +kernel) ?_
    refine s_imul (pc := 23) (by decide +kernel) ?_
    refine S_gd (fun c2 => ?_)
    refine S_gd (fun c3 => ?_)
    refine s_iald (pc := 24) c2 c3 (by decide +kernel) ?_
    refine s_i2l (pc := 25) (by decide +kernel) ?_
    refine s_aload_n (pc := 26) (k0 := 0) (i := 0) rfl 0 rfl (by decide +kernel) ?_
    refine s_getR (pc := 27) (k := 25) c1 ft_X7_72 rfl (by decide +kernel) ?_
    refine s_iconst (pc := 30) (n := 4) (v := (4 : Int32)) (by decide) (by decide +kernel) ?_
    refine s_iload_n (pc := 31) (k0 := 2) (i := 2) rfl 1 rfl (by decide +kernel) ?_
    refine s_imul (pc := 32) (by decide +kernel) ?_
    refine s_iconst (pc := 33) (n := 1) (v := (1 : Int32)) (by decide) (by decide +kernel) ?_
    refine s_iadd (pc := 34) (by decide +kernel) ?_
    refine S_gd (fun c4 => ?_)
    refine s_iald (pc := 35) c2 c4 (by decide +kernel) ?_
    refine s_i2l (pc := 36) (by decide +kernel) ?_
    refine s_aload_n (pc := 37) (k0 := 0) (i := 0) rfl 0 rfl (by decide +kernel) ?_
    refine s_getR (pc := 38) (k := 25) c1 ft_X7_72 rfl (by decide +kernel) ?_
    refine s_iconst (pc := 41) (n := 4) (v := (4 : Int32)) (by decide) (by decide +kernel) ?_
    refine s_iload_n (pc := 42) (k0 := 2) (i := 2) rfl 1 rfl (by decide +kernel) ?_
    refine s_imul (pc := 43) (by decide +kernel) ?_
    refine s_iconst (pc := 44) (n := 2) (v := (2 : Int32)) (by decide) (by decide +kernel) ?_
    refine s_iadd (pc := 45) (by decide +kernel) ?_
    refine S_gd (fun c5 => ?_)
    refine s_iald (pc := 46) c2 c5 (by decide +kernel) ?_
    refine s_i2l (pc := 47) (by decide +kernel) ?_
    refine s_aload_n (pc := 48) (k0 := 0) (i := 0) rfl 0 rfl (by decide +kernel) ?_
    refine s_getR (pc := 49) (k := 25) c1 ft_X7_72 rfl (by decide +kernel) ?_
    refine s_iconst (pc := 52) (n := 4) (v := (4 : Int32)) (by decide) (by decide +kernel) ?_
    refine s_iload_n (pc := 53) (k0 := 2) (i := 2) rfl 1 rfl (by decide +kernel) ?_
    refine s_imul (pc := 54) (by decide +kernel) ?_
    refine s_iconst (pc := 55) (n := 3) (v := (3 : Int32)) (by decide) (by decide +kernel) ?_
    refine s_iadd (pc := 56) (by decide +kernel) ?_
    refine S_gd (fun c6 => ?_)
    refine s_iald (pc := 57) c2 c6 (by decide +kernel) ?_
    refine s_i2l (pc := 58) (by decide +kernel) ?_
    refine s_cVv (pc := 59) [.long ((hI h (hR h a0 25) ((4 : Int32) * a2).toNatClampNeg).toInt64), .long ((hI h (hR h a0 25) (((4 : Int32) * a2) + (1 : Int32)).toNatClampNeg).toInt64), .long ((hI h (hR h a0 25) (((4 : Int32) * a2) + (2 : Int32)).toNatClampNeg).toInt64), .long ((hI h (hR h a0 25) (((4 : Int32) * a2) + (3 : Int32)).toNatClampNeg).toInt64)] (tX7_lineBy a0 ((hI h (hR h a0 25) ((4 : Int32) * a2).toNatClampNeg).toInt64) ((hI h (hR h a0 25) (((4 : Int32) * a2) + (1 : Int32)).toNatClampNeg).toInt64) ((hI h (hR h a0 25) (((4 : Int32) * a2) + (2 : Int32)).toNatClampNeg).toInt64) ((hI h (hR h a0 25) (((4 : Int32) * a2) + (3 : Int32)).toNatClampNeg).toInt64) h) c1 cw_X7_185 rfl ⟨⟨Nat.le_of_ble_eq_true rfl, Nat.le_of_ble_eq_true rfl⟩, Nat.le_of_ble_eq_true rfl⟩ rfl (by decide +kernel) (fun _ g7 e8 => ?_)
    refine s_iinc (pc := 62) (L' := [(2, .int (a2 + (1 : Int32))), (0, .ref a0)]) (i := 2) (n := 1) 1 rfl rfl (by decide) rfl (by decide +kernel) ?_
    refine s_nmI0 (e := a2 + (1 : Int32)) (L := fun v9 => [(2, .int v9), (0, .ref a0)]) (fun v9 => ?_)
    refine s_goto (pc := 65) (off := -57) 8 (by decide +kernel) (by decide) ?_
    refine S_sub [1, 0] rfl ?_
    exact hr8 a0 v9 g7
theorem pX7_linesOf_l8 {h0 : xH}   : ∀ (k : Nat)  (a0 : Nat) (a2 : Int32) (h : xH), S emV kX7_linesOf h0 8 [(0, .ref a0), (2, .int a2)] [] h (fX7_linesOf_l8  k  a0 a2 h) := by
  intro k
  induction k with
  | zero => intros; exact S_none
  | succ k ih => intro  a0 a2 h; exact pX7_linesOf_b8 ih  a0 a2 h
theorem pX7_linesOf_e    (a0 : Nat) (a1 : Int32) (h : xH) : S emV kX7_linesOf h 0 [(0, .ref a0), (1, .int a1)] [] h (fX7_linesOf  a0 a1 h) := by
  unfold fX7_linesOf
  refine s_aload_n (pc := 0) (k0 := 0) (i := 0) rfl 0 rfl (by decide +kernel) ?_
  refine s_iload_n (pc := 1) (k0 := 1) (i := 1) rfl 1 rfl (by decide +kernel) ?_
  refine s_iconst (pc := 2) (n := 0) (v := (0 : Int32)) (by decide) (by decide +kernel) ?_
  refine S_gd (fun c1 => ?_)
  refine s_cVv (pc := 3) [.int a1, .int (0 : Int32)] (tX7_laySpans a0 a1 (0 : Int32) h) c1 cw_X7_181 rfl ⟨⟨Nat.le_of_ble_eq_true rfl, Nat.le_of_ble_eq_true rfl⟩, Nat.le_of_ble_eq_true rfl⟩ rfl (by decide +kernel) (fun _ g2 e3 => ?_)
  refine s_iconst (pc := 6) (n := 0) (v := (0 : Int32)) (by decide) (by decide +kernel) ?_
  refine s_nmI (fun v4 => ?_)
  refine s_istore_n (pc := 7) (L' := [(2, .int v4), (0, .ref a0), (1, .int a1)]) (k0 := 2) (i := 2) rfl (by decide) rfl (by decide +kernel) ?_
  refine S_sub [1, 0] rfl ?_
  exact pX7_linesOf_l8 FU a0 v4 g2
theorem tX7_linesOf (a0 : Nat) (a1 : Int32) (h : xH) : Ct yX7_linesOf kX7_linesOf emV [.ref a0, .int a1] h (fX7_linesOf a0 a1 h) := Ct_of (by decide +kernel) rfl rfl rfl (Nat.le_of_ble_eq_true rfl) rfl (pX7_linesOf_e a0 a1 h)
def fX7_forget_b12 (r12 : Nat → Int32 → Int32 → xH → Option (Unit × xH))  (a0 : Nat) (a1 : Int32) (a2 : Int32) (h : xH) : Option (Unit × xH) :=
  if kc h a0 = 7 then
  if (hI h a0 19) ≤ a2 then (
  some ((), h))
  else (
  if kc h (hR h a0 20) = 8 then
  if ix (a2 + a1) (kl h (hR h a0 20)) then
  if ix a2 (kl h (hR h a0 20)) then
  lt (sI h (hR h a0 20) a2.toNatClampNeg (hI h (hR h a0 20) (a2 + a1).toNatClampNeg)) (fun g5 =>
  if kc g5 (hR g5 a0 21) = 8 then
  if ix (a2 + a1) (kl g5 (hR g5 a0 21)) then
  if ix a2 (kl g5 (hR g5 a0 21)) then
  lt (sI g5 (hR g5 a0 21) a2.toNatClampNeg (hI g5 (hR g5 a0 21) (a2 + a1).toNatClampNeg)) (fun g11 =>
  if kc g11 (hR g11 a0 22) = 9 then
  if ix (a2 + a1) (kl g11 (hR g11 a0 22)) then
  if ix a2 (kl g11 (hR g11 a0 22)) then
  lt (sJ g11 (hR g11 a0 22) a2.toNatClampNeg (hJ g11 (hR g11 a0 22) (a2 + a1).toNatClampNeg)) (fun g17 =>
  if kc g17 (hR g17 a0 23) = 9 then
  if ix (a2 + a1) (kl g17 (hR g17 a0 23)) then
  if ix a2 (kl g17 (hR g17 a0 23)) then
  lt (sJ g17 (hR g17 a0 23) a2.toNatClampNeg (hJ g17 (hR g17 a0 23) (a2 + a1).toNatClampNeg)) (fun g23 =>
  if kc g23 (hR g23 a0 24) = 9 then
  if ix (a2 + a1) (kl g23 (hR g23 a0 24)) then
  if ix a2 (kl g23 (hR g23 a0 24)) then
  lt (sJ g23 (hR g23 a0 24) a2.toNatClampNeg (hJ g23 (hR g23 a0 24) (a2 + a1).toNatClampNeg)) (fun g29 =>
  lt (a2 + (1 : Int32)) (fun v31 =>
  r12 a0 a1 v31 g29))
  else none
  else none
  else none)
  else none
  else none
  else none)
  else none
  else none
  else none)
  else none
  else none
  else none)
  else none
  else none
  else none)
  else none
def fX7_forget_l12  : Nat → Nat → Int32 → Int32 → xH → Option (Unit × xH)
  | 0 => fun _ _ _ _ => none
  | k + 1 => fX7_forget_b12 (fX7_forget_l12  k)
def fX7_forget   (a0 : Nat) (a1 : Int32) (h : xH) : Option (Unit × xH) :=
  if kc h a0 = 7 then
  lt (sI h a0 19 ((hI h a0 19) - a1)) (fun g2 =>
  lt (0 : Int32) (fun v4 =>
  fX7_forget_l12 FU a0 a1 v4 g2))
  else none
theorem pX7_forget_b12 {h0 : xH} {r12 : Nat → Int32 → Int32 → xH → Option (Unit × xH)} (hr12 : ∀  (a0 : Nat) (a1 : Int32) (a2 : Int32) (g : xH), S emV kX7_forget h0 12 [(0, .ref a0), (1, .int a1), (2, .int a2)] [] g (r12  a0 a1 a2 g))  (a0 : Nat) (a1 : Int32) (a2 : Int32) (h : xH) : S emV kX7_forget h0 12 [(0, .ref a0), (1, .int a1), (2, .int a2)] [] h (fX7_forget_b12 r12 a0 a1 a2 h) := by
  unfold fX7_forget_b12
  refine s_iload_n (pc := 12) (k0 := 2) (i := 2) rfl 2 rfl (by decide +kernel) ?_
  refine s_aload_n (pc := 13) (k0 := 0) (i := 0) rfl 0 rfl (by decide +kernel) ?_
  refine S_gd (fun c1 => ?_)
  refine s_getI (pc := 14) (k := 19) c1 ft_X7_158 rfl (by decide +kernel) ?_
  refine s_icmp_ge (pc := 17) (off := 79) 96 (by decide +kernel) (by decide) (fun _ => ?_) (fun _ => ?_)
  · exact s_vret (pc := 96) rfl (by decide +kernel)
  · refine s_aload_n (pc := 20) (k0 := 0) (i := 0) rfl 0 rfl (by decide +kernel) ?_
    refine s_getR (pc := 21) (k := 20) c1 ft_X7_57 rfl (by decide +kernel) ?_
    refine s_iload_n (pc := 24) (k0 := 2) (i := 2) rfl 2 rfl (by decide +kernel) ?_
    refine s_aload_n (pc := 25) (k0 := 0) (i := 0) rfl 0 rfl (by decide +kernel) ?_
    refine s_getR (pc := 26) (k := 20) c1 ft_X7_57 rfl (by decide +kernel) ?_
    refine s_iload_n (pc := 29) (k0 := 2) (i := 2) rfl 2 rfl (by decide +kernel) ?_
    refine s_iload_n (pc := 30) (k0 := 1) (i := 1) rfl 1 rfl (by decide +kernel) ?_
    refine s_iadd (pc := 31) (by decide +kernel) ?_
    refine S_gd (fun c2 => ?_)
    refine S_gd (fun c3 => ?_)
    refine s_iald (pc := 32) c2 c3 (by decide +kernel) ?_
    refine S_gd (fun c4 => ?_)
    refine s_iast (pc := 33) c2 c4 (by decide +kernel) ?_
    refine s_nmH (o := h) rfl (fun g5 e6 => ?_)
    refine s_aload_n (pc := 34) (k0 := 0) (i := 0) rfl 0 rfl (by decide +kernel) ?_
    have c7 := kp e6 c1 (by decide)
    refine s_getR (pc := 35) (k := 21) c7 ft_X7_60 rfl (by decide +kernel) ?_
    refine s_iload_n (pc := 38) (k0 := 2) (i := 2) rfl 2 rfl (by decide +kernel) ?_
    refine s_aload_n (pc := 39) (k0 := 0) (i := 0) rfl 0 rfl (by decide +kernel) ?_
    refine s_getR (pc := 40) (k := 21) c7 ft_X7_60 rfl (by decide +kernel) ?_
    refine s_iload_n (pc := 43) (k0 := 2) (i := 2) rfl 2 rfl (by decide +kernel) ?_
    refine s_iload_n (pc := 44) (k0 := 1) (i := 1) rfl 1 rfl (by decide +kernel) ?_
    refine s_iadd (pc := 45) (by decide +kernel) ?_
    refine S_gd (fun c8 => ?_)
    refine S_gd (fun c9 => ?_)
    refine s_iald (pc := 46) c8 c9 (by decide +kernel) ?_
    refine S_gd (fun c10 => ?_)
    refine s_iast (pc := 47) c8 c10 (by decide +kernel) ?_
    refine s_nmH (o := g5) rfl (fun g11 e12 => ?_)
    refine s_aload_n (pc := 48) (k0 := 0) (i := 0) rfl 0 rfl (by decide +kernel) ?_
    have c13 := kp e12 c7 (by decide)
    refine s_getR (pc := 49) (k := 22) c13 ft_X7_63 rfl (by decide +kernel) ?_
    refine s_iload_n (pc := 52) (k0 := 2) (i := 2) rfl 2 rfl (by decide +kernel) ?_
    refine s_aload_n (pc := 53) (k0 := 0) (i := 0) rfl 0 rfl (by decide +kernel) ?_
    refine s_getR (pc := 54) (k := 22) c13 ft_X7_63 rfl (by decide +kernel) ?_
    refine s_iload_n (pc := 57) (k0 := 2) (i := 2) rfl 2 rfl (by decide +kernel) ?_
    refine s_iload_n (pc := 58) (k0 := 1) (i := 1) rfl 1 rfl (by decide +kernel) ?_
    refine s_iadd (pc := 59) (by decide +kernel) ?_
    refine S_gd (fun c14 => ?_)
    refine S_gd (fun c15 => ?_)
    refine s_lald (pc := 60) c14 c15 (by decide +kernel) ?_
    refine S_gd (fun c16 => ?_)
    refine s_last (pc := 61) c14 c16 (by decide +kernel) ?_
    refine s_nmH (o := g11) rfl (fun g17 e18 => ?_)
    refine s_aload_n (pc := 62) (k0 := 0) (i := 0) rfl 0 rfl (by decide +kernel) ?_
    have c19 := kp e18 c13 (by decide)
    refine s_getR (pc := 63) (k := 23) c19 ft_X7_66 rfl (by decide +kernel) ?_
    refine s_iload_n (pc := 66) (k0 := 2) (i := 2) rfl 2 rfl (by decide +kernel) ?_
    refine s_aload_n (pc := 67) (k0 := 0) (i := 0) rfl 0 rfl (by decide +kernel) ?_
    refine s_getR (pc := 68) (k := 23) c19 ft_X7_66 rfl (by decide +kernel) ?_
    refine s_iload_n (pc := 71) (k0 := 2) (i := 2) rfl 2 rfl (by decide +kernel) ?_
    refine s_iload_n (pc := 72) (k0 := 1) (i := 1) rfl 1 rfl (by decide +kernel) ?_
    refine s_iadd (pc := 73) (by decide +kernel) ?_
    refine S_gd (fun c20 => ?_)
    refine S_gd (fun c21 => ?_)
    refine s_lald (pc := 74) c20 c21 (by decide +kernel) ?_
    refine S_gd (fun c22 => ?_)
    refine s_last (pc := 75) c20 c22 (by decide +kernel) ?_
    refine s_nmH (o := g17) rfl (fun g23 e24 => ?_)
    refine s_aload_n (pc := 76) (k0 := 0) (i := 0) rfl 0 rfl (by decide +kernel) ?_
    have c25 := kp e24 c19 (by decide)
    refine s_getR (pc := 77) (k := 24) c25 ft_X7_69 rfl (by decide +kernel) ?_
    refine s_iload_n (pc := 80) (k0 := 2) (i := 2) rfl 2 rfl (by decide +kernel) ?_
    refine s_aload_n (pc := 81) (k0 := 0) (i := 0) rfl 0 rfl (by decide +kernel) ?_
    refine s_getR (pc := 82) (k := 24) c25 ft_X7_69 rfl (by decide +kernel) ?_
    refine s_iload_n (pc := 85) (k0 := 2) (i := 2) rfl 2 rfl (by decide +kernel) ?_
    refine s_iload_n (pc := 86) (k0 := 1) (i := 1) rfl 1 rfl (by decide +kernel) ?_
    refine s_iadd (pc := 87) (by decide +kernel) ?_
    refine S_gd (fun c26 => ?_)
    refine S_gd (fun c27 => ?_)
    refine s_lald (pc := 88) c26 c27 (by decide +kernel) ?_
    refine S_gd (fun c28 => ?_)
    refine s_last (pc := 89) c26 c28 (by decide +kernel) ?_
    refine s_nmH (o := g23) rfl (fun g29 e30 => ?_)
    refine s_iinc (pc := 90) (L' := [(2, .int (a2 + (1 : Int32))), (0, .ref a0), (1, .int a1)]) (i := 2) (n := 1) 2 rfl rfl (by decide) rfl (by decide +kernel) ?_
    refine s_nmI0 (e := a2 + (1 : Int32)) (L := fun v31 => [(2, .int v31), (0, .ref a0), (1, .int a1)]) (fun v31 => ?_)
    refine s_goto (pc := 93) (off := -81) 12 (by decide +kernel) (by decide) ?_
    refine S_sub [1, 2, 0] rfl ?_
    exact hr12 a0 a1 v31 g29
theorem pX7_forget_l12 {h0 : xH}   : ∀ (k : Nat)  (a0 : Nat) (a1 : Int32) (a2 : Int32) (h : xH), S emV kX7_forget h0 12 [(0, .ref a0), (1, .int a1), (2, .int a2)] [] h (fX7_forget_l12  k  a0 a1 a2 h) := by
  intro k
  induction k with
  | zero => intros; exact S_none
  | succ k ih => intro  a0 a1 a2 h; exact pX7_forget_b12 ih  a0 a1 a2 h
theorem pX7_forget_e    (a0 : Nat) (a1 : Int32) (h : xH) : S emV kX7_forget h 0 [(0, .ref a0), (1, .int a1)] [] h (fX7_forget  a0 a1 h) := by
  unfold fX7_forget
  refine s_aload_n (pc := 0) (k0 := 0) (i := 0) rfl 0 rfl (by decide +kernel) ?_
  refine s_dup_a (pc := 1) (by decide +kernel) ?_
  refine S_gd (fun c1 => ?_)
  refine s_getI (pc := 2) (k := 19) c1 ft_X7_158 rfl (by decide +kernel) ?_
  refine s_iload_n (pc := 5) (k0 := 1) (i := 1) rfl 1 rfl (by decide +kernel) ?_
  refine s_isub (pc := 6) (by decide +kernel) ?_
  refine s_putI (pc := 7) (k := 19) c1 ft_X7_158 (fw_7_19 _ _) rfl rfl (by decide +kernel) ?_
  refine s_nmH (o := h) rfl (fun g2 e3 => ?_)
  refine s_iconst (pc := 10) (n := 0) (v := (0 : Int32)) (by decide) (by decide +kernel) ?_
  refine s_nmI (fun v4 => ?_)
  refine s_istore_n (pc := 11) (L' := [(2, .int v4), (0, .ref a0), (1, .int a1)]) (k0 := 2) (i := 2) rfl (by decide) rfl (by decide +kernel) ?_
  refine S_sub [1, 2, 0] rfl ?_
  exact pX7_forget_l12 FU a0 a1 v4 g2
theorem tX7_forget (a0 : Nat) (a1 : Int32) (h : xH) : Ct yX7_forget kX7_forget emV [.ref a0, .int a1] h (fX7_forget a0 a1 h) := Ct_of (by decide +kernel) rfl rfl rfl (Nat.le_of_ble_eq_true rfl) rfl (pX7_forget_e a0 a1 h)
def fX7_onto   (a0 : Nat) (a1 : Int32) (h : xH) : Option (Int32 × xH) :=
  if kc h a0 = 7 then
  bd (fX7_remember a0 a1 h) (fun _ g2 =>
  bd (fX7_layPaper a0 g2) (fun _ g5 =>
  bd (fX7_tell a0 (hI g5 a0 4) g5) (fun w10 g8 =>
  some (w10, g8))))
  else none
theorem pX7_onto_e    (a0 : Nat) (a1 : Int32) (h : xH) : S emI kX7_onto h 0 [(0, .ref a0), (1, .int a1)] [] h (fX7_onto  a0 a1 h) := by
  unfold fX7_onto
  refine s_aload_n (pc := 0) (k0 := 0) (i := 0) rfl 0 rfl (by decide +kernel) ?_
  refine s_iload_n (pc := 1) (k0 := 1) (i := 1) rfl 1 rfl (by decide +kernel) ?_
  refine S_gd (fun c1 => ?_)
  refine s_cVv (pc := 2) [.int a1] (tX7_remember a0 a1 h) c1 cw_X7_241 rfl ⟨⟨Nat.le_of_ble_eq_true rfl, Nat.le_of_ble_eq_true rfl⟩, Nat.le_of_ble_eq_true rfl⟩ rfl (by decide +kernel) (fun _ g2 e3 => ?_)
  refine s_aload_n (pc := 5) (k0 := 0) (i := 0) rfl 0 rfl (by decide +kernel) ?_
  have c4 := kp e3 c1 (by decide)
  refine s_cVv (pc := 6) [] (tX7_layPaper a0 g2) c4 cw_X7_244 rfl ⟨⟨Nat.le_of_ble_eq_true rfl, Nat.le_of_ble_eq_true rfl⟩, Nat.le_of_ble_eq_true rfl⟩ rfl (by decide +kernel) (fun _ g5 e6 => ?_)
  refine s_aload_n (pc := 9) (k0 := 0) (i := 0) rfl 0 rfl (by decide +kernel) ?_
  refine s_aload_n (pc := 10) (k0 := 0) (i := 0) rfl 0 rfl (by decide +kernel) ?_
  have c7 := kp e6 c4 (by decide)
  refine s_getI (pc := 11) (k := 4) c7 ft_X7_125 rfl (by decide +kernel) ?_
  refine s_cVi (pc := 14) [.int (hI g5 a0 4)] (tX7_tell a0 (hI g5 a0 4) g5) c7 cw_X7_145 rfl ⟨⟨Nat.le_of_ble_eq_true rfl, Nat.le_of_ble_eq_true rfl⟩, Nat.le_of_ble_eq_true rfl⟩ rfl (by decide +kernel) (fun w10 g8 e9 => ?_)
  exact s_iret (pc := 17) rfl (by decide +kernel)
theorem tX7_onto (a0 : Nat) (a1 : Int32) (h : xH) : Ct yX7_onto kX7_onto emI [.ref a0, .int a1] h (fX7_onto a0 a1 h) := Ct_of (by decide +kernel) rfl rfl rfl (Nat.le_of_ble_eq_true rfl) rfl (pX7_onto_e a0 a1 h)
def fX7_sum_b19   (a0 : Nat) (h : xH) : Option (Int32 × xH) :=
  if kc h a0 = 7 then
  bd (fX7_refuse a0 (-2 : Int32) h) (fun w4 g2 =>
  some (w4, g2))
  else none
def fX7_sum_b235 (r55 : Nat → Int32 → Int32 → Int32 → xH → Option (Int32 × xH)) (r64 : Nat → Int32 → Int32 → Int32 → Int32 → xH → Option (Int32 × xH))  (a0 : Nat) (a3 : Int32) (a4 : Int32) (a5 : Int32) (a6 : Int32) (h : xH) : Option (Int32 × xH) :=
  lt (a6 + (1 : Int32)) (fun v1 =>
  r64 a0 a3 a4 a5 v1 h)
def fX7_sum_b141 (r55 : Nat → Int32 → Int32 → Int32 → xH → Option (Int32 × xH)) (r64 : Nat → Int32 → Int32 → Int32 → Int32 → xH → Option (Int32 × xH)) (s0 : Int32) (a0 : Nat) (a3 : Int32) (a4 : Int32) (a5 : Int32) (a6 : Int32) (a7 : Int32) (h : xH) : Option (Int32 × xH) :=
  if s0 < a7 then (
  fX7_sum_b235 r55 r64 a0 a3 a4 a5 a6 h)
  else (
  if kc h a0 = 7 then
  if kc h (hR h a0 22) = 9 then
  if ix a5 (kl h (hR h a0 22)) then
  if kc h (hR h a0 24) = 9 then
  if ix a6 (kl h (hR h a0 24)) then
  if ix a6 (kl h (hR h a0 22)) then
  if ix a5 (kl h (hR h a0 24)) then
  if kc h (hR h a0 23) = 9 then
  if ix a5 (kl h (hR h a0 23)) then
  if ix a6 (kl h (hR h a0 23)) then
  bd (fX7_line a0 a7 s0 (((hJ h (hR h a0 22) a5.toNatClampNeg) * (hJ h (hR h a0 24) a6.toNatClampNeg)) + ((hJ h (hR h a0 22) a6.toNatClampNeg) * (hJ h (hR h a0 24) a5.toNatClampNeg))) (((hJ h (hR h a0 23) a5.toNatClampNeg) * (hJ h (hR h a0 24) a6.toNatClampNeg)) + ((hJ h (hR h a0 23) a6.toNatClampNeg) * (hJ h (hR h a0 24) a5.toNatClampNeg))) ((hJ h (hR h a0 24) a5.toNatClampNeg) * (hJ h (hR h a0 24) a6.toNatClampNeg)) h) (fun _ g11 =>
  fX7_sum_b235 r55 r64 a0 a3 a4 a5 a6 g11)
  else none
  else none
  else none
  else none
  else none
  else none
  else none
  else none
  else none
  else none)
def fX7_sum_b105 (r55 : Nat → Int32 → Int32 → Int32 → xH → Option (Int32 × xH)) (r64 : Nat → Int32 → Int32 → Int32 → Int32 → xH → Option (Int32 × xH)) (s0 : Int32) (a0 : Nat) (a3 : Int32) (a4 : Int32) (a5 : Int32) (a6 : Int32) (h : xH) : Option (Int32 × xH) :=
  if kc h a0 = 7 then
  if kc h (hR h a0 21) = 8 then
  if ix a5 (kl h (hR h a0 21)) then
  if ix a6 (kl h (hR h a0 21)) then
  if (hI h (hR h a0 21) a6.toNatClampNeg) ≤ (hI h (hR h a0 21) a5.toNatClampNeg) then (
  fX7_sum_b141 r55 r64 (hI h (hR h a0 21) a6.toNatClampNeg) a0 a3 a4 a5 a6 s0 h)
  else (
  fX7_sum_b141 r55 r64 (hI h (hR h a0 21) a5.toNatClampNeg) a0 a3 a4 a5 a6 s0 h)
  else none
  else none
  else none
  else none
def fX7_sum_b64 (r55 : Nat → Int32 → Int32 → Int32 → xH → Option (Int32 × xH)) (r64 : Nat → Int32 → Int32 → Int32 → Int32 → xH → Option (Int32 × xH))  (a0 : Nat) (a3 : Int32) (a4 : Int32) (a5 : Int32) (a6 : Int32) (h : xH) : Option (Int32 × xH) :=
  if a4 ≤ a6 then (
  lt (a5 + (1 : Int32)) (fun v1 =>
  r55 a0 a3 a4 v1 h))
  else (
  if kc h a0 = 7 then
  if kc h (hR h a0 20) = 8 then
  if ix a5 (kl h (hR h a0 20)) then
  if ix a6 (kl h (hR h a0 20)) then
  if (hI h (hR h a0 20) a5.toNatClampNeg) ≤ (hI h (hR h a0 20) a6.toNatClampNeg) then (
  fX7_sum_b105 r55 r64 (hI h (hR h a0 20) a6.toNatClampNeg) a0 a3 a4 a5 a6 h)
  else (
  fX7_sum_b105 r55 r64 (hI h (hR h a0 20) a5.toNatClampNeg) a0 a3 a4 a5 a6 h)
  else none
  else none
  else none
  else none)
def fX7_sum_l64 (r55 : Nat → Int32 → Int32 → Int32 → xH → Option (Int32 × xH)) : Nat → Nat → Int32 → Int32 → Int32 → Int32 → xH → Option (Int32 × xH)
  | 0 => fun _ _ _ _ _ _ => none
  | k + 1 => fX7_sum_b64 r55 (fX7_sum_l64 r55 k)
def fX7_sum_b55 (r55 : Nat → Int32 → Int32 → Int32 → xH → Option (Int32 × xH))  (a0 : Nat) (a3 : Int32) (a4 : Int32) (a5 : Int32) (h : xH) : Option (Int32 × xH) :=
  if a3 ≤ a5 then (
  if kc h a0 = 7 then
  bd (fX7_forget a0 a4 h) (fun _ g2 =>
  bd (fX7_onto a0 (3 : Int32) g2) (fun w7 g5 =>
  some (w7, g5)))
  else none)
  else (
  fX7_sum_l64 r55 FU a0 a3 a4 a5 a3 h)
def fX7_sum_l55  : Nat → Nat → Int32 → Int32 → Int32 → xH → Option (Int32 × xH)
  | 0 => fun _ _ _ _ _ => none
  | k + 1 => fX7_sum_b55 (fX7_sum_l55  k)
def fX7_sum   (a0 : Nat) (a1 : Int32) (a2 : Int32) (h : xH) : Option (Int32 × xH) :=
  if kc h a0 = 7 then
  lt (sI h a0 0 (0 : Int32)) (fun g2 =>
  bd (fX7_isStore a1 g2) (fun w6 g4 =>
  if w6 = 0 then (
  fX7_sum_b19 a0 g4)
  else (
  bd (fX7_isStore a2 g4) (fun w9 g7 =>
  if w9 = 0 then (
  fX7_sum_b19 a0 g7)
  else (
  lt (sI g7 a0 19 (0 : Int32)) (fun g11 =>
  bd (fX7_linesOf a0 a1 g11) (fun _ g14 =>
  lt (hI g14 a0 19) (fun v17 =>
  bd (fX7_linesOf a0 a2 g14) (fun _ g18 =>
  lt (hI g18 a0 19) (fun v21 =>
  lt (0 : Int32) (fun v22 =>
  fX7_sum_l55 FU a0 v17 v21 v22 g18)))))))))))
  else none
theorem pX7_sum_b19 {h0 : xH}    (a0 : Nat) (h : xH) : S emI kX7_sum h0 19 [(0, .ref a0)] [] h (fX7_sum_b19  a0 h) := by
  unfold fX7_sum_b19
  refine s_aload_n (pc := 19) (k0 := 0) (i := 0) rfl 0 rfl (by decide +kernel) ?_
  refine s_bipush (pc := 20) (n := -2) (v := (-2 : Int32)) (by decide) (by decide +kernel) ?_
  refine S_gd (fun c1 => ?_)
  refine s_cVi (pc := 22) [.int (-2 : Int32)] (tX7_refuse a0 (-2 : Int32) h) c1 cw_X7_138 rfl ⟨⟨Nat.le_of_ble_eq_true rfl, Nat.le_of_ble_eq_true rfl⟩, Nat.le_of_ble_eq_true rfl⟩ rfl (by decide +kernel) (fun w4 g2 e3 => ?_)
  exact s_iret (pc := 25) rfl (by decide +kernel)
theorem pX7_sum_b235 {h0 : xH} {r55 : Nat → Int32 → Int32 → Int32 → xH → Option (Int32 × xH)} {r64 : Nat → Int32 → Int32 → Int32 → Int32 → xH → Option (Int32 × xH)} (hr55 : ∀  (a0 : Nat) (a3 : Int32) (a4 : Int32) (a5 : Int32) (g : xH), S emI kX7_sum h0 55 [(0, .ref a0), (3, .int a3), (4, .int a4), (5, .int a5)] [] g (r55  a0 a3 a4 a5 g)) (hr64 : ∀  (a0 : Nat) (a3 : Int32) (a4 : Int32) (a5 : Int32) (a6 : Int32) (g : xH), S emI kX7_sum h0 64 [(0, .ref a0), (3, .int a3), (4, .int a4), (5, .int a5), (6, .int a6)] [] g (r64  a0 a3 a4 a5 a6 g))  (a0 : Nat) (a3 : Int32) (a4 : Int32) (a5 : Int32) (a6 : Int32) (h : xH) : S emI kX7_sum h0 235 [(0, .ref a0), (3, .int a3), (4, .int a4), (5, .int a5), (6, .int a6)] [] h (fX7_sum_b235 r55 r64 a0 a3 a4 a5 a6 h) := by
  unfold fX7_sum_b235
  refine s_iinc (pc := 235) (L' := [(6, .int (a6 + (1 : Int32))), (0, .ref a0), (3, .int a3), (4, .int a4), (5, .int a5)]) (i := 6) (n := 1) 4 rfl rfl (by decide) rfl (by decide +kernel) ?_
  refine s_nmI0 (e := a6 + (1 : Int32)) (L := fun v1 => [(6, .int v1), (0, .ref a0), (3, .int a3), (4, .int a4), (5, .int a5)]) (fun v1 => ?_)
  refine s_goto (pc := 238) (off := -174) 64 (by decide +kernel) (by decide) ?_
  refine S_sub [1, 2, 3, 4, 0] rfl ?_
  exact hr64 a0 a3 a4 a5 v1 h
theorem pX7_sum_b141 {h0 : xH} {r55 : Nat → Int32 → Int32 → Int32 → xH → Option (Int32 × xH)} {r64 : Nat → Int32 → Int32 → Int32 → Int32 → xH → Option (Int32 × xH)} (hr55 : ∀  (a0 : Nat) (a3 : Int32) (a4 : Int32) (a5 : Int32) (g : xH), S emI kX7_sum h0 55 [(0, .ref a0), (3, .int a3), (4, .int a4), (5, .int a5)] [] g (r55  a0 a3 a4 a5 g)) (hr64 : ∀  (a0 : Nat) (a3 : Int32) (a4 : Int32) (a5 : Int32) (a6 : Int32) (g : xH), S emI kX7_sum h0 64 [(0, .ref a0), (3, .int a3), (4, .int a4), (5, .int a5), (6, .int a6)] [] g (r64  a0 a3 a4 a5 a6 g)) (s0 : Int32) (a0 : Nat) (a3 : Int32) (a4 : Int32) (a5 : Int32) (a6 : Int32) (a7 : Int32) (h : xH) : S emI kX7_sum h0 141 [(0, .ref a0), (3, .int a3), (4, .int a4), (5, .int a5), (6, .int a6), (7, .int a7)] [.int s0] h (fX7_sum_b141 r55 r64 s0 a0 a3 a4 a5 a6 a7 h) := by
  unfold fX7_sum_b141
  refine s_istore (pc := 141) (L' := [(8, .int s0), (0, .ref a0), (3, .int a3), (4, .int a4), (5, .int a5), (6, .int a6), (7, .int a7)]) (i := 8) (by decide) rfl (by decide +kernel) ?_
  refine s_iload (pc := 143) (i := 7) 6 rfl (by decide +kernel) ?_
  refine s_iload (pc := 145) (i := 8) 0 rfl (by decide +kernel) ?_
  refine s_icmp_gt (pc := 147) (off := 88) 235 (by decide +kernel) (by decide) (fun _ => ?_) (fun _ => ?_)
  · refine S_sub [1, 2, 3, 4, 5] rfl ?_
    exact pX7_sum_b235 hr55 hr64 a0 a3 a4 a5 a6 h
  · refine s_aload_n (pc := 150) (k0 := 0) (i := 0) rfl 1 rfl (by decide +kernel) ?_
    refine s_iload (pc := 151) (i := 7) 6 rfl (by decide +kernel) ?_
    refine s_iload (pc := 153) (i := 8) 0 rfl (by decide +kernel) ?_
    refine s_aload_n (pc := 155) (k0 := 0) (i := 0) rfl 1 rfl (by decide +kernel) ?_
    refine S_gd (fun c1 => ?_)
    refine s_getR (pc := 156) (k := 22) c1 ft_X7_63 rfl (by decide +kernel) ?_
    refine s_iload (pc := 159) (i := 5) 4 rfl (by decide +kernel) ?_
    refine S_gd (fun c2 => ?_)
    refine S_gd (fun c3 => ?_)
    refine s_lald (pc := 161) c2 c3 (by decide +kernel) ?_
    refine s_aload_n (pc := 162) (k0 := 0) (i := 0) rfl 1 rfl (by decide +kernel) ?_
    refine s_getR (pc := 163) (k := 24) c1 ft_X7_69 rfl (by decide +kernel) ?_
    refine s_iload (pc := 166) (i := 6) 5 rfl (by decide +kernel) ?_
    refine S_gd (fun c4 => ?_)
    refine S_gd (fun c5 => ?_)
    refine s_lald (pc := 168) c4 c5 (by decide +kernel) ?_
    refine s_lmul (pc := 169) (by decide +kernel) ?_
    refine s_aload_n (pc := 170) (k0 := 0) (i := 0) rfl 1 rfl (by decide +kernel) ?_
    refine s_getR (pc := 171) (k := 22) c1 ft_X7_63 rfl (by decide +kernel) ?_
    refine s_iload (pc := 174) (i := 6) 5 rfl (by decide +kernel) ?_
    refine S_gd (fun c6 => ?_)
    refine s_lald (pc := 176) c2 c6 (by decide +kernel) ?_
    refine s_aload_n (pc := 177) (k0 := 0) (i := 0) rfl 1 rfl (by decide +kernel) ?_
    refine s_getR (pc := 178) (k := 24) c1 ft_X7_69 rfl (by decide +kernel) ?_
    refine s_iload (pc := 181) (i := 5) 4 rfl (by decide +kernel) ?_
    refine S_gd (fun c7 => ?_)
    refine s_lald (pc := 183) c4 c7 (by decide +kernel) ?_
    refine s_lmul (pc := 184) (by decide +kernel) ?_
    refine s_ladd (pc := 185) (by decide +kernel) ?_
    refine s_aload_n (pc := 186) (k0 := 0) (i := 0) rfl 1 rfl (by decide +kernel) ?_
    refine s_getR (pc := 187) (k := 23) c1 ft_X7_66 rfl (by decide +kernel) ?_
    refine s_iload (pc := 190) (i := 5) 4 rfl (by decide +kernel) ?_
    refine S_gd (fun c8 => ?_)
    refine S_gd (fun c9 => ?_)
    refine s_lald (pc := 192) c8 c9 (by decide +kernel) ?_
    refine s_aload_n (pc := 193) (k0 := 0) (i := 0) rfl 1 rfl (by decide +kernel) ?_
    refine s_getR (pc := 194) (k := 24) c1 ft_X7_69 rfl (by decide +kernel) ?_
    refine s_iload (pc := 197) (i := 6) 5 rfl (by decide +kernel) ?_
    refine s_lald (pc := 199) c4 c5 (by decide +kernel) ?_
    refine s_lmul (pc := 200) (by decide +kernel) ?_
    refine s_aload_n (pc := 201) (k0 := 0) (i := 0) rfl 1 rfl (by decide +kernel) ?_
    refine s_getR (pc := 202) (k := 23) c1 ft_X7_66 rfl (by decide +kernel) ?_
    refine s_iload (pc := 205) (i := 6) 5 rfl (by decide +kernel) ?_
    refine S_gd (fun c10 => ?_)
    refine s_lald (pc := 207) c8 c10 (by decide +kernel) ?_
    refine s_aload_n (pc := 208) (k0 := 0) (i := 0) rfl 1 rfl (by decide +kernel) ?_
    refine s_getR (pc := 209) (k := 24) c1 ft_X7_69 rfl (by decide +kernel) ?_
    refine s_iload (pc := 212) (i := 5) 4 rfl (by decide +kernel) ?_
    refine s_lald (pc := 214) c4 c7 (by decide +kernel) ?_
    refine s_lmul (pc := 215) (by decide +kernel) ?_
    refine s_ladd (pc := 216) (by decide +kernel) ?_
    refine s_aload_n (pc := 217) (k0 := 0) (i := 0) rfl 1 rfl (by decide +kernel) ?_
    refine s_getR (pc := 218) (k := 24) c1 ft_X7_69 rfl (by decide +kernel) ?_
    refine s_iload (pc := 221) (i := 5) 4 rfl (by decide +kernel) ?_
    refine s_lald (pc := 223) c4 c7 (by decide +kernel) ?_
    refine s_aload_n (pc := 224) (k0 := 0) (i := 0) rfl 1 rfl (by decide +kernel) ?_
    refine s_getR (pc := 225) (k := 24) c1 ft_X7_69 rfl (by decide +kernel) ?_
    refine s_iload (pc := 228) (i := 6) 5 rfl (by decide +kernel) ?_
    refine s_lald (pc := 230) c4 c5 (by decide +kernel) ?_
    refine s_lmul (pc := 231) (by decide +kernel) ?_
    refine s_cVv (pc := 232) [.int a7, .int s0, .long (((hJ h (hR h a0 22) a5.toNatClampNeg) * (hJ h (hR h a0 24) a6.toNatClampNeg)) + ((hJ h (hR h a0 22) a6.toNatClampNeg) * (hJ h (hR h a0 24) a5.toNatClampNeg))), .long (((hJ h (hR h a0 23) a5.toNatClampNeg) * (hJ h (hR h a0 24) a6.toNatClampNeg)) + ((hJ h (hR h a0 23) a6.toNatClampNeg) * (hJ h (hR h a0 24) a5.toNatClampNeg))), .long ((hJ h (hR h a0 24) a5.toNatClampNeg) * (hJ h (hR h a0 24) a6.toNatClampNeg))] (tX7_line a0 a7 s0 (((hJ h (hR h a0 22) a5.toNatClampNeg) * (hJ h (hR h a0 24) a6.toNatClampNeg)) + ((hJ h (hR h a0 22) a6.toNatClampNeg) * (hJ h (hR h a0 24) a5.toNatClampNeg))) (((hJ h (hR h a0 23) a5.toNatClampNeg) * (hJ h (hR h a0 24) a6.toNatClampNeg)) + ((hJ h (hR h a0 23) a6.toNatClampNeg) * (hJ h (hR h a0 24) a5.toNatClampNeg))) ((hJ h (hR h a0 24) a5.toNatClampNeg) * (hJ h (hR h a0 24) a6.toNatClampNeg)) h) c1 cw_X7_161 rfl ⟨⟨Nat.le_of_ble_eq_true rfl, Nat.le_of_ble_eq_true rfl⟩, Nat.le_of_ble_eq_true rfl⟩ rfl (by decide +kernel) (fun _ g11 e12 => ?_)
    refine S_sub [1, 2, 3, 4, 5] rfl ?_
    exact pX7_sum_b235 hr55 hr64 a0 a3 a4 a5 a6 g11
theorem pX7_sum_b105 {h0 : xH} {r55 : Nat → Int32 → Int32 → Int32 → xH → Option (Int32 × xH)} {r64 : Nat → Int32 → Int32 → Int32 → Int32 → xH → Option (Int32 × xH)} (hr55 : ∀  (a0 : Nat) (a3 : Int32) (a4 : Int32) (a5 : Int32) (g : xH), S emI kX7_sum h0 55 [(0, .ref a0), (3, .int a3), (4, .int a4), (5, .int a5)] [] g (r55  a0 a3 a4 a5 g)) (hr64 : ∀  (a0 : Nat) (a3 : Int32) (a4 : Int32) (a5 : Int32) (a6 : Int32) (g : xH), S emI kX7_sum h0 64 [(0, .ref a0), (3, .int a3), (4, .int a4), (5, .int a5), (6, .int a6)] [] g (r64  a0 a3 a4 a5 a6 g)) (s0 : Int32) (a0 : Nat) (a3 : Int32) (a4 : Int32) (a5 : Int32) (a6 : Int32) (h : xH) : S emI kX7_sum h0 105 [(0, .ref a0), (3, .int a3), (4, .int a4), (5, .int a5), (6, .int a6)] [.int s0] h (fX7_sum_b105 r55 r64 s0 a0 a3 a4 a5 a6 h) := by
  unfold fX7_sum_b105
  refine s_istore (pc := 105) (L' := [(7, .int s0), (0, .ref a0), (3, .int a3), (4, .int a4), (5, .int a5), (6, .int a6)]) (i := 7) (by decide) rfl (by decide +kernel) ?_
  refine s_aload_n (pc := 107) (k0 := 0) (i := 0) rfl 1 rfl (by decide +kernel) ?_
  refine S_gd (fun c1 => ?_)
  refine s_getR (pc := 108) (k := 21) c1 ft_X7_60 rfl (by decide +kernel) ?_
  refine s_iload (pc := 111) (i := 5) 4 rfl (by decide +kernel) ?_
  refine S_gd (fun c2 => ?_)
  refine S_gd (fun c3 => ?_)
  refine s_iald (pc := 113) c2 c3 (by decide +kernel) ?_
  refine s_aload_n (pc := 114) (k0 := 0) (i := 0) rfl 1 rfl (by decide +kernel) ?_
  refine s_getR (pc := 115) (k := 21) c1 ft_X7_60 rfl (by decide +kernel) ?_
  refine s_iload (pc := 118) (i := 6) 5 rfl (by decide +kernel) ?_
  refine S_gd (fun c4 => ?_)
  refine s_iald (pc := 120) c2 c4 (by decide +kernel) ?_
  refine s_icmp_ge (pc := 121) (off := 13) 134 (by decide +kernel) (by decide) (fun _ => ?_) (fun _ => ?_)
  · refine s_aload_n (pc := 134) (k0 := 0) (i := 0) rfl 1 rfl (by decide +kernel) ?_
    refine s_getR (pc := 135) (k := 21) c1 ft_X7_60 rfl (by decide +kernel) ?_
    refine s_iload (pc := 138) (i := 6) 5 rfl (by decide +kernel) ?_
    refine s_iald (pc := 140) c2 c4 (by decide +kernel) ?_
    refine S_sub [1, 2, 3, 4, 5, 0] rfl ?_
    exact pX7_sum_b141 hr55 hr64 (hI h (hR h a0 21) a6.toNatClampNeg) a0 a3 a4 a5 a6 s0 h
  · refine s_aload_n (pc := 124) (k0 := 0) (i := 0) rfl 1 rfl (by decide +kernel) ?_
    refine s_getR (pc := 125) (k := 21) c1 ft_X7_60 rfl (by decide +kernel) ?_
    refine s_iload (pc := 128) (i := 5) 4 rfl (by decide +kernel) ?_
    refine s_iald (pc := 130) c2 c3 (by decide +kernel) ?_
    refine s_goto (pc := 131) (off := 10) 141 (by decide +kernel) (by decide) ?_
    refine S_sub [1, 2, 3, 4, 5, 0] rfl ?_
    exact pX7_sum_b141 hr55 hr64 (hI h (hR h a0 21) a5.toNatClampNeg) a0 a3 a4 a5 a6 s0 h
theorem pX7_sum_b64 {h0 : xH} {r55 : Nat → Int32 → Int32 → Int32 → xH → Option (Int32 × xH)} {r64 : Nat → Int32 → Int32 → Int32 → Int32 → xH → Option (Int32 × xH)} (hr55 : ∀  (a0 : Nat) (a3 : Int32) (a4 : Int32) (a5 : Int32) (g : xH), S emI kX7_sum h0 55 [(0, .ref a0), (3, .int a3), (4, .int a4), (5, .int a5)] [] g (r55  a0 a3 a4 a5 g)) (hr64 : ∀  (a0 : Nat) (a3 : Int32) (a4 : Int32) (a5 : Int32) (a6 : Int32) (g : xH), S emI kX7_sum h0 64 [(0, .ref a0), (3, .int a3), (4, .int a4), (5, .int a5), (6, .int a6)] [] g (r64  a0 a3 a4 a5 a6 g))  (a0 : Nat) (a3 : Int32) (a4 : Int32) (a5 : Int32) (a6 : Int32) (h : xH) : S emI kX7_sum h0 64 [(0, .ref a0), (3, .int a3), (4, .int a4), (5, .int a5), (6, .int a6)] [] h (fX7_sum_b64 r55 r64 a0 a3 a4 a5 a6 h) := by
  unfold fX7_sum_b64
  refine s_iload (pc := 64) (i := 6) 4 rfl (by decide +kernel) ?_
  refine s_iload (pc := 66) (i := 4) 2 rfl (by decide +kernel) ?_
  refine s_icmp_ge (pc := 68) (off := 173) 241 (by decide +kernel) (by decide) (fun _ => ?_) (fun _ => ?_)
  · refine s_iinc (pc := 241) (L' := [(5, .int (a5 + (1 : Int32))), (0, .ref a0), (3, .int a3), (4, .int a4), (6, .int a6)]) (i := 5) (n := 1) 3 rfl rfl (by decide) rfl (by decide +kernel) ?_
    refine s_nmI0 (e := a5 + (1 : Int32)) (L := fun v1 => [(5, .int v1), (0, .ref a0), (3, .int a3), (4, .int a4), (6, .int a6)]) (fun v1 => ?_)
    refine s_goto (pc := 244) (off := -189) 55 (by decide +kernel) (by decide) ?_
    refine S_sub [1, 2, 3, 0] rfl ?_
    exact hr55 a0 a3 a4 v1 h
  · refine s_aload_n (pc := 71) (k0 := 0) (i := 0) rfl 0 rfl (by decide +kernel) ?_
    refine S_gd (fun c2 => ?_)
    refine s_getR (pc := 72) (k := 20) c2 ft_X7_57 rfl (by decide +kernel) ?_
    refine s_iload (pc := 75) (i := 5) 3 rfl (by decide +kernel) ?_
    refine S_gd (fun c3 => ?_)
    refine S_gd (fun c4 => ?_)
    refine s_iald (pc := 77) c3 c4 (by decide +kernel) ?_
    refine s_aload_n (pc := 78) (k0 := 0) (i := 0) rfl 0 rfl (by decide +kernel) ?_
    refine s_getR (pc := 79) (k := 20) c2 ft_X7_57 rfl (by decide +kernel) ?_
    refine s_iload (pc := 82) (i := 6) 4 rfl (by decide +kernel) ?_
    refine S_gd (fun c5 => ?_)
    refine s_iald (pc := 84) c3 c5 (by decide +kernel) ?_
    refine s_icmp_le (pc := 85) (off := 13) 98 (by decide +kernel) (by decide) (fun _ => ?_) (fun _ => ?_)
    · refine s_aload_n (pc := 98) (k0 := 0) (i := 0) rfl 0 rfl (by decide +kernel) ?_
      refine s_getR (pc := 99) (k := 20) c2 ft_X7_57 rfl (by decide +kernel) ?_
      refine s_iload (pc := 102) (i := 6) 4 rfl (by decide +kernel) ?_
      refine s_iald (pc := 104) c3 c5 (by decide +kernel) ?_
      exact pX7_sum_b105 hr55 hr64 (hI h (hR h a0 20) a6.toNatClampNeg) a0 a3 a4 a5 a6 h
    · refine s_aload_n (pc := 88) (k0 := 0) (i := 0) rfl 0 rfl (by decide +kernel) ?_
      refine s_getR (pc := 89) (k := 20) c2 ft_X7_57 rfl (by decide +kernel) ?_
      refine s_iload (pc := 92) (i := 5) 3 rfl (by decide +kernel) ?_
      refine s_iald (pc := 94) c3 c4 (by decide +kernel) ?_
      refine s_goto (pc := 95) (off := 10) 105 (by decide +kernel) (by decide) ?_
      exact pX7_sum_b105 hr55 hr64 (hI h (hR h a0 20) a5.toNatClampNeg) a0 a3 a4 a5 a6 h
theorem pX7_sum_l64 {h0 : xH} {r55 : Nat → Int32 → Int32 → Int32 → xH → Option (Int32 × xH)} (hr55 : ∀  (a0 : Nat) (a3 : Int32) (a4 : Int32) (a5 : Int32) (g : xH), S emI kX7_sum h0 55 [(0, .ref a0), (3, .int a3), (4, .int a4), (5, .int a5)] [] g (r55  a0 a3 a4 a5 g)) : ∀ (k : Nat)  (a0 : Nat) (a3 : Int32) (a4 : Int32) (a5 : Int32) (a6 : Int32) (h : xH), S emI kX7_sum h0 64 [(0, .ref a0), (3, .int a3), (4, .int a4), (5, .int a5), (6, .int a6)] [] h (fX7_sum_l64 r55 k  a0 a3 a4 a5 a6 h) := by
  intro k
  induction k with
  | zero => intros; exact S_none
  | succ k ih => intro  a0 a3 a4 a5 a6 h; exact pX7_sum_b64 hr55 ih  a0 a3 a4 a5 a6 h
theorem pX7_sum_b55 {h0 : xH} {r55 : Nat → Int32 → Int32 → Int32 → xH → Option (Int32 × xH)} (hr55 : ∀  (a0 : Nat) (a3 : Int32) (a4 : Int32) (a5 : Int32) (g : xH), S emI kX7_sum h0 55 [(0, .ref a0), (3, .int a3), (4, .int a4), (5, .int a5)] [] g (r55  a0 a3 a4 a5 g))  (a0 : Nat) (a3 : Int32) (a4 : Int32) (a5 : Int32) (h : xH) : S emI kX7_sum h0 55 [(0, .ref a0), (3, .int a3), (4, .int a4), (5, .int a5)] [] h (fX7_sum_b55 r55 a0 a3 a4 a5 h) := by
  unfold fX7_sum_b55
  refine s_iload (pc := 55) (i := 5) 3 rfl (by decide +kernel) ?_
  refine s_iload_n (pc := 57) (k0 := 3) (i := 3) rfl 1 rfl (by decide +kernel) ?_
  refine s_icmp_ge (pc := 58) (off := 189) 247 (by decide +kernel) (by decide) (fun _ => ?_) (fun _ => ?_)
  · refine s_aload_n (pc := 247) (k0 := 0) (i := 0) rfl 0 rfl (by decide +kernel) ?_
    refine s_iload (pc := 248) (i := 4) 2 rfl (by decide +kernel) ?_
    refine S_gd (fun c1 => ?_)
    refine s_cVv (pc := 250) [.int a4] (tX7_forget a0 a4 h) c1 cw_X7_254 rfl ⟨⟨Nat.le_of_ble_eq_true rfl, Nat.le_of_ble_eq_true rfl⟩, Nat.le_of_ble_eq_true rfl⟩ rfl (by decide +kernel) (fun _ g2 e3 => ?_)
    refine s_aload_n (pc := 253) (k0 := 0) (i := 0) rfl 0 rfl (by decide +kernel) ?_
    refine s_iconst (pc := 254) (n := 3) (v := (3 : Int32)) (by decide) (by decide +kernel) ?_
    have c4 := kp e3 c1 (by decide)
    refine s_cVi (pc := 255) [.int (3 : Int32)] (tX7_onto a0 (3 : Int32) g2) c4 cw_X7_257 rfl ⟨⟨Nat.le_of_ble_eq_true rfl, Nat.le_of_ble_eq_true rfl⟩, Nat.le_of_ble_eq_true rfl⟩ rfl (by decide +kernel) (fun w7 g5 e6 => ?_)
    exact s_iret (pc := 258) rfl (by decide +kernel)
  · refine s_iload_n (pc := 61) (k0 := 3) (i := 3) rfl 1 rfl (by decide +kernel) ?_
    refine s_istore (pc := 62) (L' := [(6, .int a3), (0, .ref a0), (3, .int a3), (4, .int a4), (5, .int a5)]) (i := 6) (by decide) rfl (by decide +kernel) ?_
    refine S_sub [1, 2, 3, 4, 0] rfl ?_
    exact pX7_sum_l64 hr55 FU a0 a3 a4 a5 a3 h
theorem pX7_sum_l55 {h0 : xH}   : ∀ (k : Nat)  (a0 : Nat) (a3 : Int32) (a4 : Int32) (a5 : Int32) (h : xH), S emI kX7_sum h0 55 [(0, .ref a0), (3, .int a3), (4, .int a4), (5, .int a5)] [] h (fX7_sum_l55  k  a0 a3 a4 a5 h) := by
  intro k
  induction k with
  | zero => intros; exact S_none
  | succ k ih => intro  a0 a3 a4 a5 h; exact pX7_sum_b55 ih  a0 a3 a4 a5 h
theorem pX7_sum_e    (a0 : Nat) (a1 : Int32) (a2 : Int32) (h : xH) : S emI kX7_sum h 0 [(0, .ref a0), (1, .int a1), (2, .int a2)] [] h (fX7_sum  a0 a1 a2 h) := by
  unfold fX7_sum
  refine s_aload_n (pc := 0) (k0 := 0) (i := 0) rfl 0 rfl (by decide +kernel) ?_
  refine s_iconst (pc := 1) (n := 0) (v := (0 : Int32)) (by decide) (by decide +kernel) ?_
  refine S_gd (fun c1 => ?_)
  refine s_putI (pc := 2) (k := 0) c1 ft_X7_107 (fw_7_0 _ _) rfl rfl (by decide +kernel) ?_
  refine s_nmH (o := h) rfl (fun g2 e3 => ?_)
  refine s_iload_n (pc := 5) (k0 := 1) (i := 1) rfl 1 rfl (by decide +kernel) ?_
  refine s_cSi (pc := 6) [.int a1] (tX7_isStore a1 g2) cw_X7_247 rfl ⟨⟨Nat.le_of_ble_eq_true rfl, Nat.le_of_ble_eq_true rfl⟩, Nat.le_of_ble_eq_true rfl⟩ rfl (by decide +kernel) (fun w6 g4 e5 => ?_)
  refine s_if_eq (pc := 9) (off := 10) 19 (by decide +kernel) (by decide) (fun _ => ?_) (fun _ => ?_)
  · refine S_sub [0] rfl ?_
    exact pX7_sum_b19 a0 g4
  · refine s_iload_n (pc := 12) (k0 := 2) (i := 2) rfl 2 rfl (by decide +kernel) ?_
    refine s_cSi (pc := 13) [.int a2] (tX7_isStore a2 g4) cw_X7_247 rfl ⟨⟨Nat.le_of_ble_eq_true rfl, Nat.le_of_ble_eq_true rfl⟩, Nat.le_of_ble_eq_true rfl⟩ rfl (by decide +kernel) (fun w9 g7 e8 => ?_)
    refine s_if_ne (pc := 16) (off := 10) 26 (by decide +kernel) (by decide) (fun _ => ?_) (fun _ => ?_)
    · refine S_sub [0] rfl ?_
      exact pX7_sum_b19 a0 g7
    · refine s_aload_n (pc := 26) (k0 := 0) (i := 0) rfl 0 rfl (by decide +kernel) ?_
      refine s_iconst (pc := 27) (n := 0) (v := (0 : Int32)) (by decide) (by decide +kernel) ?_
      have c10 := kp (Le.tr e3 (Le.tr e5 e8)) c1 (by decide)
      refine s_putI (pc := 28) (k := 19) c10 ft_X7_158 (fw_7_19 _ _) rfl rfl (by decide +kernel) ?_
      refine s_nmH (o := g7) rfl (fun g11 e12 => ?_)
      refine s_aload_n (pc := 31) (k0 := 0) (i := 0) rfl 0 rfl (by decide +kernel) ?_
      refine s_iload_n (pc := 32) (k0 := 1) (i := 1) rfl 1 rfl (by decide +kernel) ?_
      have c13 := kp e12 c10 (by decide)
      refine s_cVv (pc := 33) [.int a1] (tX7_linesOf a0 a1 g11) c13 cw_X7_251 rfl ⟨⟨Nat.le_of_ble_eq_true rfl, Nat.le_of_ble_eq_true rfl⟩, Nat.le_of_ble_eq_true rfl⟩ rfl (by decide +kernel) (fun _ g14 e15 => ?_)
      refine s_aload_n (pc := 36) (k0 := 0) (i := 0) rfl 0 rfl (by decide +kernel) ?_
      have c16 := kp e15 c13 (by decide)
      refine s_getI (pc := 37) (k := 19) c16 ft_X7_158 rfl (by decide +kernel) ?_
      refine s_nmI (fun v17 => ?_)
      refine s_istore_n (pc := 40) (L' := [(3, .int v17), (0, .ref a0), (1, .int a1), (2, .int a2)]) (k0 := 3) (i := 3) rfl (by decide) rfl (by decide +kernel) ?_
      refine s_aload_n (pc := 41) (k0 := 0) (i := 0) rfl 1 rfl (by decide +kernel) ?_
      refine s_iload_n (pc := 42) (k0 := 2) (i := 2) rfl 3 rfl (by decide +kernel) ?_
      refine s_cVv (pc := 43) [.int a2] (tX7_linesOf a0 a2 g14) c16 cw_X7_251 rfl ⟨⟨Nat.le_of_ble_eq_true rfl, Nat.le_of_ble_eq_true rfl⟩, Nat.le_of_ble_eq_true rfl⟩ rfl (by decide +kernel) (fun _ g18 e19 => ?_)
      refine s_aload_n (pc := 46) (k0 := 0) (i := 0) rfl 1 rfl (by decide +kernel) ?_
      have c20 := kp e19 c16 (by decide)
      refine s_getI (pc := 47) (k := 19) c20 ft_X7_158 rfl (by decide +kernel) ?_
      refine s_nmI (fun v21 => ?_)
      refine s_istore (pc := 50) (L' := [(4, .int v21), (3, .int v17), (0, .ref a0), (1, .int a1), (2, .int a2)]) (i := 4) (by decide) rfl (by decide +kernel) ?_
      refine s_iconst (pc := 52) (n := 0) (v := (0 : Int32)) (by decide) (by decide +kernel) ?_
      refine s_nmI (fun v22 => ?_)
      refine s_istore (pc := 53) (L' := [(5, .int v22), (4, .int v21), (3, .int v17), (0, .ref a0), (1, .int a1), (2, .int a2)]) (i := 5) (by decide) rfl (by decide +kernel) ?_
      refine S_sub [3, 2, 1, 0] rfl ?_
      exact pX7_sum_l55 FU a0 v17 v21 v22 g18
theorem tX7_sum (a0 : Nat) (a1 : Int32) (a2 : Int32) (h : xH) : Ct yX7_sum kX7_sum emI [.ref a0, .int a1, .int a2] h (fX7_sum a0 a1 a2 h) := Ct_of (by decide +kernel) rfl rfl rfl (Nat.le_of_ble_eq_true rfl) rfl (pX7_sum_e a0 a1 a2 h)
def fX7_under__b19   (a0 : Nat) (h : xH) : Option (Int32 × xH) :=
  if kc h a0 = 7 then
  bd (fX7_refuse a0 (-2 : Int32) h) (fun w4 g2 =>
  some (w4, g2))
  else none
def fX7_under_   (a0 : Nat) (a1 : Int32) (a2 : Int32) (h : xH) : Option (Int32 × xH) :=
  if kc h a0 = 7 then
  lt (sI h a0 0 (0 : Int32)) (fun g2 =>
  bd (fX7_isStore a1 g2) (fun w6 g4 =>
  if w6 = 0 then (
  fX7_under__b19 a0 g4)
  else (
  bd (fX7_isStore a2 g4) (fun w9 g7 =>
  if w9 = 0 then (
  fX7_under__b19 a0 g7)
  else (
  lt (sI g7 a0 19 (0 : Int32)) (fun g11 =>
  bd (fX7_linesOf a0 a1 g11) (fun _ g14 =>
  bd (fX7_linesOf a0 a2 g14) (fun _ g17 =>
  bd (fX7_onto a0 (4 : Int32) g17) (fun w22 g20 =>
  some (w22, g20))))))))))
  else none
theorem pX7_under__b19 {h0 : xH}    (a0 : Nat) (h : xH) : S emI kX7_under_ h0 19 [(0, .ref a0)] [] h (fX7_under__b19  a0 h) := by
  unfold fX7_under__b19
  refine s_aload_n (pc := 19) (k0 := 0) (i := 0) rfl 0 rfl (by decide +kernel) ?_
  refine s_bipush (pc := 20) (n := -2) (v := (-2 : Int32)) (by decide) (by decide +kernel) ?_
  refine S_gd (fun c1 => ?_)
  refine s_cVi (pc := 22) [.int (-2 : Int32)] (tX7_refuse a0 (-2 : Int32) h) c1 cw_X7_138 rfl ⟨⟨Nat.le_of_ble_eq_true rfl, Nat.le_of_ble_eq_true rfl⟩, Nat.le_of_ble_eq_true rfl⟩ rfl (by decide +kernel) (fun w4 g2 e3 => ?_)
  exact s_iret (pc := 25) rfl (by decide +kernel)
theorem pX7_under__e    (a0 : Nat) (a1 : Int32) (a2 : Int32) (h : xH) : S emI kX7_under_ h 0 [(0, .ref a0), (1, .int a1), (2, .int a2)] [] h (fX7_under_  a0 a1 a2 h) := by
  unfold fX7_under_
  refine s_aload_n (pc := 0) (k0 := 0) (i := 0) rfl 0 rfl (by decide +kernel) ?_
  refine s_iconst (pc := 1) (n := 0) (v := (0 : Int32)) (by decide) (by decide +kernel) ?_
  refine S_gd (fun c1 => ?_)
  refine s_putI (pc := 2) (k := 0) c1 ft_X7_107 (fw_7_0 _ _) rfl rfl (by decide +kernel) ?_
  refine s_nmH (o := h) rfl (fun g2 e3 => ?_)
  refine s_iload_n (pc := 5) (k0 := 1) (i := 1) rfl 1 rfl (by decide +kernel) ?_
  refine s_cSi (pc := 6) [.int a1] (tX7_isStore a1 g2) cw_X7_247 rfl ⟨⟨Nat.le_of_ble_eq_true rfl, Nat.le_of_ble_eq_true rfl⟩, Nat.le_of_ble_eq_true rfl⟩ rfl (by decide +kernel) (fun w6 g4 e5 => ?_)
  refine s_if_eq (pc := 9) (off := 10) 19 (by decide +kernel) (by decide) (fun _ => ?_) (fun _ => ?_)
  · refine S_sub [0] rfl ?_
    exact pX7_under__b19 a0 g4
  · refine s_iload_n (pc := 12) (k0 := 2) (i := 2) rfl 2 rfl (by decide +kernel) ?_
    refine s_cSi (pc := 13) [.int a2] (tX7_isStore a2 g4) cw_X7_247 rfl ⟨⟨Nat.le_of_ble_eq_true rfl, Nat.le_of_ble_eq_true rfl⟩, Nat.le_of_ble_eq_true rfl⟩ rfl (by decide +kernel) (fun w9 g7 e8 => ?_)
    refine s_if_ne (pc := 16) (off := 10) 26 (by decide +kernel) (by decide) (fun _ => ?_) (fun _ => ?_)
    · refine S_sub [0] rfl ?_
      exact pX7_under__b19 a0 g7
    · refine s_aload_n (pc := 26) (k0 := 0) (i := 0) rfl 0 rfl (by decide +kernel) ?_
      refine s_iconst (pc := 27) (n := 0) (v := (0 : Int32)) (by decide) (by decide +kernel) ?_
      have c10 := kp (Le.tr e3 (Le.tr e5 e8)) c1 (by decide)
      refine s_putI (pc := 28) (k := 19) c10 ft_X7_158 (fw_7_19 _ _) rfl rfl (by decide +kernel) ?_
      refine s_nmH (o := g7) rfl (fun g11 e12 => ?_)
      refine s_aload_n (pc := 31) (k0 := 0) (i := 0) rfl 0 rfl (by decide +kernel) ?_
      refine s_iload_n (pc := 32) (k0 := 1) (i := 1) rfl 1 rfl (by decide +kernel) ?_
      have c13 := kp e12 c10 (by decide)
      refine s_cVv (pc := 33) [.int a1] (tX7_linesOf a0 a1 g11) c13 cw_X7_251 rfl ⟨⟨Nat.le_of_ble_eq_true rfl, Nat.le_of_ble_eq_true rfl⟩, Nat.le_of_ble_eq_true rfl⟩ rfl (by decide +kernel) (fun _ g14 e15 => ?_)
      refine s_aload_n (pc := 36) (k0 := 0) (i := 0) rfl 0 rfl (by decide +kernel) ?_
      refine s_iload_n (pc := 37) (k0 := 2) (i := 2) rfl 2 rfl (by decide +kernel) ?_
      have c16 := kp e15 c13 (by decide)
      refine s_cVv (pc := 38) [.int a2] (tX7_linesOf a0 a2 g14) c16 cw_X7_251 rfl ⟨⟨Nat.le_of_ble_eq_true rfl, Nat.le_of_ble_eq_true rfl⟩, Nat.le_of_ble_eq_true rfl⟩ rfl (by decide +kernel) (fun _ g17 e18 => ?_)
      refine s_aload_n (pc := 41) (k0 := 0) (i := 0) rfl 0 rfl (by decide +kernel) ?_
      refine s_iconst (pc := 42) (n := 4) (v := (4 : Int32)) (by decide) (by decide +kernel) ?_
      have c19 := kp e18 c16 (by decide)
      refine s_cVi (pc := 43) [.int (4 : Int32)] (tX7_onto a0 (4 : Int32) g17) c19 cw_X7_257 rfl ⟨⟨Nat.le_of_ble_eq_true rfl, Nat.le_of_ble_eq_true rfl⟩, Nat.le_of_ble_eq_true rfl⟩ rfl (by decide +kernel) (fun w22 g20 e21 => ?_)
      exact s_iret (pc := 46) rfl (by decide +kernel)
theorem tX7_under_ (a0 : Nat) (a1 : Int32) (a2 : Int32) (h : xH) : Ct yX7_under_ kX7_under_ emI [.ref a0, .int a1, .int a2] h (fX7_under_ a0 a1 a2 h) := Ct_of (by decide +kernel) rfl rfl rfl (Nat.le_of_ble_eq_true rfl) rfl (pX7_under__e a0 a1 a2 h)
def fX7_joinTwo_b127   (a0 : Nat) (a3 : Int64) (a5 : Int64) (a7 : Int64) (a9 : Int64) (a11 : Int64) (a13 : Int64) (h : xH) : Option (Unit × xH) :=
  if kc h a0 = 7 then
  bd (fX7_lineBy a0 a3 a5 ((a3 + a7) + a11) ((a5 + a9) + a13) h) (fun _ g2 =>
  some ((), g2))
  else none
def fX7_joinTwo_b201  (s0 : Int64) (s1 : Int64) (a0 : Nat) (a3 : Int64) (a5 : Int64) (a7 : Int64) (a9 : Int64) (a11 : Int64) (a13 : Int64) (a16 : Int64) (h : xH) : Option (Unit × xH) :=
  lt (s1 + s0) (fun v1 =>
  if kc h a0 = 7 then
  bd (fX7_lineBy a0 a3 a5 a16 v1 h) (fun _ g3 =>
  bd (fX7_lineBy a0 a16 v1 ((a3 + a7) + a11) ((a5 + a9) + a13) g3) (fun _ g6 =>
  some ((), g6)))
  else none)
def fX7_joinTwo_b184  (s0 : Int64) (s1 : Int64) (a0 : Nat) (a3 : Int64) (a5 : Int64) (a7 : Int64) (a9 : Int64) (a11 : Int64) (a13 : Int64) (a15 : Int32) (h : xH) : Option (Unit × xH) :=
  lt (s1 + s0) (fun v1 =>
  if a15 = 0 then (
  fX7_joinTwo_b201 a13 a5 a0 a3 a5 a7 a9 a11 a13 v1 h)
  else (
  fX7_joinTwo_b201 a9 a5 a0 a3 a5 a7 a9 a11 a13 v1 h))
def fX7_joinTwo_b169  (s0 : Int32) (a0 : Nat) (a3 : Int64) (a5 : Int64) (a7 : Int64) (a9 : Int64) (a11 : Int64) (a13 : Int64) (h : xH) : Option (Unit × xH) :=
  if s0 = 0 then (
  fX7_joinTwo_b184 a11 a3 a0 a3 a5 a7 a9 a11 a13 s0 h)
  else (
  fX7_joinTwo_b184 a7 a3 a0 a3 a5 a7 a9 a11 a13 s0 h)
def fX7_joinTwo   (a0 : Nat) (a1 : Int32) (a2 : Int32) (h : xH) : Option (Unit × xH) :=
  if kc h a0 = 7 then
  if kc h (hR h a0 25) = 8 then
  if ix a1 (kl h (hR h a0 25)) then
  if ix a2 (kl h (hR h a0 25)) then
  lt (((hI h (hR h a0 25) a1.toNatClampNeg).toInt64) + ((hI h (hR h a0 25) a2.toNatClampNeg).toInt64)) (fun v5 =>
  if ix (a1 + (1 : Int32)) (kl h (hR h a0 25)) then
  if ix (a2 + (1 : Int32)) (kl h (hR h a0 25)) then
  lt (((hI h (hR h a0 25) (a1 + (1 : Int32)).toNatClampNeg).toInt64) + ((hI h (hR h a0 25) (a2 + (1 : Int32)).toNatClampNeg).toInt64)) (fun v8 =>
  if ix (a1 + (2 : Int32)) (kl h (hR h a0 25)) then
  lt (((hI h (hR h a0 25) (a1 + (2 : Int32)).toNatClampNeg) - (hI h (hR h a0 25) a1.toNatClampNeg)).toInt64) (fun v10 =>
  if ix (a1 + (3 : Int32)) (kl h (hR h a0 25)) then
  lt (((hI h (hR h a0 25) (a1 + (3 : Int32)).toNatClampNeg) - (hI h (hR h a0 25) (a1 + (1 : Int32)).toNatClampNeg)).toInt64) (fun v12 =>
  if ix (a2 + (2 : Int32)) (kl h (hR h a0 25)) then
  lt (((hI h (hR h a0 25) (a2 + (2 : Int32)).toNatClampNeg) - (hI h (hR h a0 25) a2.toNatClampNeg)).toInt64) (fun v14 =>
  if ix (a2 + (3 : Int32)) (kl h (hR h a0 25)) then
  lt (((hI h (hR h a0 25) (a2 + (3 : Int32)).toNatClampNeg) - (hI h (hR h a0 25) (a2 + (1 : Int32)).toNatClampNeg)).toInt64) (fun v16 =>
  if (lg_cmp v10 (0 : Int64)) = 0 then (
  fX7_joinTwo_b127 a0 v5 v8 v10 v12 v14 v16 h)
  else (
  if (lg_cmp v14 (0 : Int64)) = 0 then (
  fX7_joinTwo_b127 a0 v5 v8 v10 v12 v14 v16 h)
  else (
  if 0 < (lg_cmp (v12 * v14) (v16 * v10)) then (
  fX7_joinTwo_b169 (0 : Int32) a0 v5 v8 v10 v12 v14 v16 h)
  else (
  fX7_joinTwo_b169 (1 : Int32) a0 v5 v8 v10 v12 v14 v16 h))))
  else none)
  else none)
  else none)
  else none)
  else none
  else none)
  else none
  else none
  else none
  else none
theorem pX7_joinTwo_b127 {h0 : xH}    (a0 : Nat) (a3 : Int64) (a5 : Int64) (a7 : Int64) (a9 : Int64) (a11 : Int64) (a13 : Int64) (h : xH) : S emV kX7_joinTwo h0 127 [(0, .ref a0), (3, .long a3), (5, .long a5), (7, .long a7), (9, .long a9), (11, .long a11), (13, .long a13)] [] h (fX7_joinTwo_b127  a0 a3 a5 a7 a9 a11 a13 h) := by
  unfold fX7_joinTwo_b127
  refine s_aload_n (pc := 127) (k0 := 0) (i := 0) rfl 0 rfl (by decide +kernel) ?_
  refine s_lload_n (pc := 128) (k0 := 3) (i := 3) rfl 1 rfl (by decide +kernel) ?_
  refine s_lload (pc := 129) (i := 5) 2 rfl (by decide +kernel) ?_
  refine s_lload_n (pc := 131) (k0 := 3) (i := 3) rfl 1 rfl (by decide +kernel) ?_
  refine s_lload (pc := 132) (i := 7) 3 rfl (by decide +kernel) ?_
  refine s_ladd (pc := 134) (by decide +kernel) ?_
  refine s_lload (pc := 135) (i := 11) 5 rfl (by decide +kernel) ?_
  refine s_ladd (pc := 137) (by decide +kernel) ?_
  refine s_lload (pc := 138) (i := 5) 2 rfl (by decide +kernel) ?_
  refine s_lload (pc := 140) (i := 9) 4 rfl (by decide +kernel) ?_
  refine s_ladd (pc := 142) (by decide +kernel) ?_
  refine s_lload (pc := 143) (i := 13) 6 rfl (by decide +kernel) ?_
  refine s_ladd (pc := 145) (by decide +kernel) ?_
  refine S_gd (fun c1 => ?_)
  refine s_cVv (pc := 146) [.long a3, .long a5, .long ((a3 + a7) + a11), .long ((a5 + a9) + a13)] (tX7_lineBy a0 a3 a5 ((a3 + a7) + a11) ((a5 + a9) + a13) h) c1 cw_X7_185 rfl ⟨⟨Nat.le_of_ble_eq_true rfl, Nat.le_of_ble_eq_true rfl⟩, Nat.le_of_ble_eq_true rfl⟩ rfl (by decide +kernel) (fun _ g2 e3 => ?_)
  exact s_vret (pc := 149) rfl (by decide +kernel)
theorem pX7_joinTwo_b201 {h0 : xH}   (s0 : Int64) (s1 : Int64) (a0 : Nat) (a3 : Int64) (a5 : Int64) (a7 : Int64) (a9 : Int64) (a11 : Int64) (a13 : Int64) (a16 : Int64) (h : xH) : S emV kX7_joinTwo h0 201 [(0, .ref a0), (3, .long a3), (5, .long a5), (7, .long a7), (9, .long a9), (11, .long a11), (13, .long a13), (16, .long a16)] [.long s0, .long s1] h (fX7_joinTwo_b201 s0 s1 a0 a3 a5 a7 a9 a11 a13 a16 h) := by
  unfold fX7_joinTwo_b201
  refine s_ladd (pc := 201) (by decide +kernel) ?_
  refine s_nmJ (fun v1 => ?_)
  refine s_lstore (pc := 202) (L' := [(18, .long v1), (0, .ref a0), (3, .long a3), (5, .long a5), (7, .long a7), (9, .long a9), (11, .long a11), (13, .long a13), (16, .long a16)]) (i := 18) (by decide) rfl (by decide +kernel) ?_
  refine s_aload_n (pc := 204) (k0 := 0) (i := 0) rfl 1 rfl (by decide +kernel) ?_
  refine s_lload_n (pc := 205) (k0 := 3) (i := 3) rfl 2 rfl (by decide +kernel) ?_
  refine s_lload (pc := 206) (i := 5) 3 rfl (by decide +kernel) ?_
  refine s_lload (pc := 208) (i := 16) 8 rfl (by decide +kernel) ?_
  refine s_lload (pc := 210) (i := 18) 0 rfl (by decide +kernel) ?_
  refine S_gd (fun c2 => ?_)
  refine s_cVv (pc := 212) [.long a3, .long a5, .long a16, .long v1] (tX7_lineBy a0 a3 a5 a16 v1 h) c2 cw_X7_185 rfl ⟨⟨Nat.le_of_ble_eq_true rfl, Nat.le_of_ble_eq_true rfl⟩, Nat.le_of_ble_eq_true rfl⟩ rfl (by decide +kernel) (fun _ g3 e4 => ?_)
  refine s_aload_n (pc := 215) (k0 := 0) (i := 0) rfl 1 rfl (by decide +kernel) ?_
  refine s_lload (pc := 216) (i := 16) 8 rfl (by decide +kernel) ?_
  refine s_lload (pc := 218) (i := 18) 0 rfl (by decide +kernel) ?_
  refine s_lload_n (pc := 220) (k0 := 3) (i := 3) rfl 2 rfl (by decide +kernel) ?_
  refine s_lload (pc := 221) (i := 7) 4 rfl (by decide +kernel) ?_
  refine s_ladd (pc := 223) (by decide +kernel) ?_
  refine s_lload (pc := 224) (i := 11) 6 rfl (by decide +kernel) ?_
  refine s_ladd (pc := 226) (by decide +kernel) ?_
  refine s_lload (pc := 227) (i := 5) 3 rfl (by decide +kernel) ?_
  refine s_lload (pc := 229) (i := 9) 5 rfl (by decide +kernel) ?_
  refine s_ladd (pc := 231) (by decide +kernel) ?_
  refine s_lload (pc := 232) (i := 13) 7 rfl (by decide +kernel) ?_
  refine s_ladd (pc := 234) (by decide +kernel) ?_
  have c5 := kp e4 c2 (by decide)
  refine s_cVv (pc := 235) [.long a16, .long v1, .long ((a3 + a7) + a11), .long ((a5 + a9) + a13)] (tX7_lineBy a0 a16 v1 ((a3 + a7) + a11) ((a5 + a9) + a13) g3) c5 cw_X7_185 rfl ⟨⟨Nat.le_of_ble_eq_true rfl, Nat.le_of_ble_eq_true rfl⟩, Nat.le_of_ble_eq_true rfl⟩ rfl (by decide +kernel) (fun _ g6 e7 => ?_)
  exact s_vret (pc := 238) rfl (by decide +kernel)
theorem pX7_joinTwo_b184 {h0 : xH}   (s0 : Int64) (s1 : Int64) (a0 : Nat) (a3 : Int64) (a5 : Int64) (a7 : Int64) (a9 : Int64) (a11 : Int64) (a13 : Int64) (a15 : Int32) (h : xH) : S emV kX7_joinTwo h0 184 [(0, .ref a0), (3, .long a3), (5, .long a5), (7, .long a7), (9, .long a9), (11, .long a11), (13, .long a13), (15, .int a15)] [.long s0, .long s1] h (fX7_joinTwo_b184 s0 s1 a0 a3 a5 a7 a9 a11 a13 a15 h) := by
  unfold fX7_joinTwo_b184
  refine s_ladd (pc := 184) (by decide +kernel) ?_
  refine s_nmJ (fun v1 => ?_)
  refine s_lstore (pc := 185) (L' := [(16, .long v1), (0, .ref a0), (3, .long a3), (5, .long a5), (7, .long a7), (9, .long a9), (11, .long a11), (13, .long a13), (15, .int a15)]) (i := 16) (by decide) rfl (by decide +kernel) ?_
  refine s_lload (pc := 187) (i := 5) 3 rfl (by decide +kernel) ?_
  refine s_iload (pc := 189) (i := 15) 8 rfl (by decide +kernel) ?_
  refine s_if_eq (pc := 191) (off := 8) 199 (by decide +kernel) (by decide) (fun _ => ?_) (fun _ => ?_)
  · refine s_lload (pc := 199) (i := 13) 7 rfl (by decide +kernel) ?_
    refine S_sub [1, 2, 3, 4, 5, 6, 7, 0] rfl ?_
    exact pX7_joinTwo_b201 a13 a5 a0 a3 a5 a7 a9 a11 a13 v1 h
  · refine s_lload (pc := 194) (i := 9) 5 rfl (by decide +kernel) ?_
    refine s_goto (pc := 196) (off := 5) 201 (by decide +kernel) (by decide) ?_
    refine S_sub [1, 2, 3, 4, 5, 6, 7, 0] rfl ?_
    exact pX7_joinTwo_b201 a9 a5 a0 a3 a5 a7 a9 a11 a13 v1 h
theorem pX7_joinTwo_b169 {h0 : xH}   (s0 : Int32) (a0 : Nat) (a3 : Int64) (a5 : Int64) (a7 : Int64) (a9 : Int64) (a11 : Int64) (a13 : Int64) (h : xH) : S emV kX7_joinTwo h0 169 [(0, .ref a0), (3, .long a3), (5, .long a5), (7, .long a7), (9, .long a9), (11, .long a11), (13, .long a13)] [.int s0] h (fX7_joinTwo_b169 s0 a0 a3 a5 a7 a9 a11 a13 h) := by
  unfold fX7_joinTwo_b169
  refine s_istore (pc := 169) (L' := [(15, .int s0), (0, .ref a0), (3, .long a3), (5, .long a5), (7, .long a7), (9, .long a9), (11, .long a11), (13, .long a13)]) (i := 15) (by decide) rfl (by decide +kernel) ?_
  refine s_lload_n (pc := 171) (k0 := 3) (i := 3) rfl 2 rfl (by decide +kernel) ?_
  refine s_iload (pc := 172) (i := 15) 0 rfl (by decide +kernel) ?_
  refine s_if_eq (pc := 174) (off := 8) 182 (by decide +kernel) (by decide) (fun _ => ?_) (fun _ => ?_)
  · refine s_lload (pc := 182) (i := 11) 6 rfl (by decide +kernel) ?_
    refine S_sub [1, 2, 3, 4, 5, 6, 7, 0] rfl ?_
    exact pX7_joinTwo_b184 a11 a3 a0 a3 a5 a7 a9 a11 a13 s0 h
  · refine s_lload (pc := 177) (i := 7) 4 rfl (by decide +kernel) ?_
    refine s_goto (pc := 179) (off := 5) 184 (by decide +kernel) (by decide) ?_
    refine S_sub [1, 2, 3, 4, 5, 6, 7, 0] rfl ?_
    exact pX7_joinTwo_b184 a7 a3 a0 a3 a5 a7 a9 a11 a13 s0 h
theorem pX7_joinTwo_e    (a0 : Nat) (a1 : Int32) (a2 : Int32) (h : xH) : S emV kX7_joinTwo h 0 [(0, .ref a0), (1, .int a1), (2, .int a2)] [] h (fX7_joinTwo  a0 a1 a2 h) := by
  unfold fX7_joinTwo
  refine s_aload_n (pc := 0) (k0 := 0) (i := 0) rfl 0 rfl (by decide +kernel) ?_
  refine S_gd (fun c1 => ?_)
  refine s_getR (pc := 1) (k := 25) c1 ft_X7_72 rfl (by decide +kernel) ?_
  refine s_iload_n (pc := 4) (k0 := 1) (i := 1) rfl 1 rfl (by decide +kernel) ?_
  refine S_gd (fun c2 => ?_)
  refine S_gd (fun c3 => ?_)
  refine s_iald (pc := 5) c2 c3 (by decide +kernel) ?_
  refine s_i2l (pc := 6) (by decide +kernel) ?_
  refine s_aload_n (pc := 7) (k0 := 0) (i := 0) rfl 0 rfl (by decide +kernel) ?_
  refine s_getR (pc := 8) (k := 25) c1 ft_X7_72 rfl (by decide +kernel) ?_
  refine s_iload_n (pc := 11) (k0 := 2) (i := 2) rfl 2 rfl (by decide +kernel) ?_
  refine S_gd (fun c4 => ?_)
  refine s_iald (pc := 12) c2 c4 (by decide +kernel) ?_
  refine s_i2l (pc := 13) (by decide +kernel) ?_
  refine s_ladd (pc := 14) (by decide +kernel) ?_
  refine s_nmJ (fun v5 => ?_)
  refine s_lstore_n (pc := 15) (L' := [(3, .long v5), (0, .ref a0), (1, .int a1), (2, .int a2)]) (k0 := 3) (i := 3) rfl (by decide) rfl (by decide +kernel) ?_
  refine s_aload_n (pc := 16) (k0 := 0) (i := 0) rfl 1 rfl (by decide +kernel) ?_
  refine s_getR (pc := 17) (k := 25) c1 ft_X7_72 rfl (by decide +kernel) ?_
  refine s_iload_n (pc := 20) (k0 := 1) (i := 1) rfl 2 rfl (by decide +kernel) ?_
  refine s_iconst (pc := 21) (n := 1) (v := (1 : Int32)) (by decide) (by decide +kernel) ?_
  refine s_iadd (pc := 22) (by decide +kernel) ?_
  refine S_gd (fun c6 => ?_)
  refine s_iald (pc := 23) c2 c6 (by decide +kernel) ?_
  refine s_i2l (pc := 24) (by decide +kernel) ?_
  refine s_aload_n (pc := 25) (k0 := 0) (i := 0) rfl 1 rfl (by decide +kernel) ?_
  refine s_getR (pc := 26) (k := 25) c1 ft_X7_72 rfl (by decide +kernel) ?_
  refine s_iload_n (pc := 29) (k0 := 2) (i := 2) rfl 3 rfl (by decide +kernel) ?_
  refine s_iconst (pc := 30) (n := 1) (v := (1 : Int32)) (by decide) (by decide +kernel) ?_
  refine s_iadd (pc := 31) (by decide +kernel) ?_
  refine S_gd (fun c7 => ?_)
  refine s_iald (pc := 32) c2 c7 (by decide +kernel) ?_
  refine s_i2l (pc := 33) (by decide +kernel) ?_
  refine s_ladd (pc := 34) (by decide +kernel) ?_
  refine s_nmJ (fun v8 => ?_)
  refine s_lstore (pc := 35) (L' := [(5, .long v8), (3, .long v5), (0, .ref a0), (1, .int a1), (2, .int a2)]) (i := 5) (by decide) rfl (by decide +kernel) ?_
  refine s_aload_n (pc := 37) (k0 := 0) (i := 0) rfl 2 rfl (by decide +kernel) ?_
  refine s_getR (pc := 38) (k := 25) c1 ft_X7_72 rfl (by decide +kernel) ?_
  refine s_iload_n (pc := 41) (k0 := 1) (i := 1) rfl 3 rfl (by decide +kernel) ?_
  refine s_iconst (pc := 42) (n := 2) (v := (2 : Int32)) (by decide) (by decide +kernel) ?_
  refine s_iadd (pc := 43) (by decide +kernel) ?_
  refine S_gd (fun c9 => ?_)
  refine s_iald (pc := 44) c2 c9 (by decide +kernel) ?_
  refine s_aload_n (pc := 45) (k0 := 0) (i := 0) rfl 2 rfl (by decide +kernel) ?_
  refine s_getR (pc := 46) (k := 25) c1 ft_X7_72 rfl (by decide +kernel) ?_
  refine s_iload_n (pc := 49) (k0 := 1) (i := 1) rfl 3 rfl (by decide +kernel) ?_
  refine s_iald (pc := 50) c2 c3 (by decide +kernel) ?_
  refine s_isub (pc := 51) (by decide +kernel) ?_
  refine s_i2l (pc := 52) (by decide +kernel) ?_
  refine s_nmJ (fun v10 => ?_)
  refine s_lstore (pc := 53) (L' := [(7, .long v10), (5, .long v8), (3, .long v5), (0, .ref a0), (1, .int a1), (2, .int a2)]) (i := 7) (by decide) rfl (by decide +kernel) ?_
  refine s_aload_n (pc := 55) (k0 := 0) (i := 0) rfl 3 rfl (by decide +kernel) ?_
  refine s_getR (pc := 56) (k := 25) c1 ft_X7_72 rfl (by decide +kernel) ?_
  refine s_iload_n (pc := 59) (k0 := 1) (i := 1) rfl 4 rfl (by decide +kernel) ?_
  refine s_iconst (pc := 60) (n := 3) (v := (3 : Int32)) (by decide) (by decide +kernel) ?_
  refine s_iadd (pc := 61) (by decide +kernel) ?_
  refine S_gd (fun c11 => ?_)
  refine s_iald (pc := 62) c2 c11 (by decide +kernel) ?_
  refine s_aload_n (pc := 63) (k0 := 0) (i := 0) rfl 3 rfl (by decide +kernel) ?_
  refine s_getR (pc := 64) (k := 25) c1 ft_X7_72 rfl (by decide +kernel) ?_
  refine s_iload_n (pc := 67) (k0 := 1) (i := 1) rfl 4 rfl (by decide +kernel) ?_
  refine s_iconst (pc := 68) (n := 1) (v := (1 : Int32)) (by decide) (by decide +kernel) ?_
  refine s_iadd (pc := 69) (by decide +kernel) ?_
  refine s_iald (pc := 70) c2 c6 (by decide +kernel) ?_
  refine s_isub (pc := 71) (by decide +kernel) ?_
  refine s_i2l (pc := 72) (by decide +kernel) ?_
  refine s_nmJ (fun v12 => ?_)
  refine s_lstore (pc := 73) (L' := [(9, .long v12), (7, .long v10), (5, .long v8), (3, .long v5), (0, .ref a0), (1, .int a1), (2, .int a2)]) (i := 9) (by decide) rfl (by decide +kernel) ?_
  refine s_aload_n (pc := 75) (k0 := 0) (i := 0) rfl 4 rfl (by decide +kernel) ?_
  refine s_getR (pc := 76) (k := 25) c1 ft_X7_72 rfl (by decide +kernel) ?_
  refine s_iload_n (pc := 79) (k0 := 2) (i := 2) rfl 6 rfl (by decide +kernel) ?_
  refine s_iconst (pc := 80) (n := 2) (v := (2 : Int32)) (by decide) (by decide +kernel) ?_
  refine s_iadd (pc := 81) (by decide +kernel) ?_
  refine S_gd (fun c13 => ?_)
  refine s_iald (pc := 82) c2 c13 (by decide +kernel) ?_
  refine s_aload_n (pc := 83) (k0 := 0) (i := 0) rfl 4 rfl (by decide +kernel) ?_
  refine s_getR (pc := 84) (k := 25) c1 ft_X7_72 rfl (by decide +kernel) ?_
  refine s_iload_n (pc := 87) (k0 := 2) (i := 2) rfl 6 rfl (by decide +kernel) ?_
  refine s_iald (pc := 88) c2 c4 (by decide +kernel) ?_
  refine s_isub (pc := 89) (by decide +kernel) ?_
  refine s_i2l (pc := 90) (by decide +kernel) ?_
  refine s_nmJ (fun v14 => ?_)
  refine s_lstore (pc := 91) (L' := [(11, .long v14), (9, .long v12), (7, .long v10), (5, .long v8), (3, .long v5), (0, .ref a0), (1, .int a1), (2, .int a2)]) (i := 11) (by decide) rfl (by decide +kernel) ?_
  refine s_aload_n (pc := 93) (k0 := 0) (i := 0) rfl 5 rfl (by decide +kernel) ?_
  refine s_getR (pc := 94) (k := 25) c1 ft_X7_72 rfl (by decide +kernel) ?_
  refine s_iload_n (pc := 97) (k0 := 2) (i := 2) rfl 7 rfl (by decide +kernel) ?_
  refine s_iconst (pc := 98) (n := 3) (v := (3 : Int32)) (by decide) (by decide +kernel) ?_
  refine s_iadd (pc := 99) (by decide +kernel) ?_
  refine S_gd (fun c15 => ?_)
  refine s_iald (pc := 100) c2 c15 (by decide +kernel) ?_
  refine s_aload_n (pc := 101) (k0 := 0) (i := 0) rfl 5 rfl (by decide +kernel) ?_
  refine s_getR (pc := 102) (k := 25) c1 ft_X7_72 rfl (by decide +kernel) ?_
  refine s_iload_n (pc := 105) (k0 := 2) (i := 2) rfl 7 rfl (by decide +kernel) ?_
  refine s_iconst (pc := 106) (n := 1) (v := (1 : Int32)) (by decide) (by decide +kernel) ?_
  refine s_iadd (pc := 107) (by decide +kernel) ?_
  refine s_iald (pc := 108) c2 c7 (by decide +kernel) ?_
  refine s_isub (pc := 109) (by decide +kernel) ?_
  refine s_i2l (pc := 110) (by decide +kernel) ?_
  refine s_nmJ (fun v16 => ?_)
  refine s_lstore (pc := 111) (L' := [(13, .long v16), (11, .long v14), (9, .long v12), (7, .long v10), (5, .long v8), (3, .long v5), (0, .ref a0), (1, .int a1), (2, .int a2)]) (i := 13) (by decide) rfl (by decide +kernel) ?_
  refine s_lload (pc := 113) (i := 7) 3 rfl (by decide +kernel) ?_
  refine s_lconst (pc := 115) (n := 0) (v := (0 : Int64)) (by decide) (by decide +kernel) ?_
  refine s_lcmp (pc := 116) (by decide +kernel) ?_
  refine s_if_eq (pc := 117) (off := 10) 127 (by decide +kernel) (by decide) (fun _ => ?_) (fun _ => ?_)
  · refine S_sub [6, 5, 4, 3, 2, 1, 0] rfl ?_
    exact pX7_joinTwo_b127 a0 v5 v8 v10 v12 v14 v16 h
  · refine s_lload (pc := 120) (i := 11) 1 rfl (by decide +kernel) ?_
    refine s_lconst (pc := 122) (n := 0) (v := (0 : Int64)) (by decide) (by decide +kernel) ?_
    refine s_lcmp (pc := 123) (by decide +kernel) ?_
    refine s_if_ne (pc := 124) (off := 26) 150 (by decide +kernel) (by decide) (fun _ => ?_) (fun _ => ?_)
    · refine S_sub [6, 5, 4, 3, 2, 1, 0] rfl ?_
      exact pX7_joinTwo_b127 a0 v5 v8 v10 v12 v14 v16 h
    · refine s_lload (pc := 150) (i := 9) 2 rfl (by decide +kernel) ?_
      refine s_lload (pc := 152) (i := 11) 1 rfl (by decide +kernel) ?_
      refine s_lmul (pc := 154) (by decide +kernel) ?_
      refine s_lload (pc := 155) (i := 13) 0 rfl (by decide +kernel) ?_
      refine s_lload (pc := 157) (i := 7) 3 rfl (by decide +kernel) ?_
      refine s_lmul (pc := 159) (by decide +kernel) ?_
      refine s_lcmp (pc := 160) (by decide +kernel) ?_
      refine s_if_gt (pc := 161) (off := 7) 168 (by decide +kernel) (by decide) (fun _ => ?_) (fun _ => ?_)
      · refine s_iconst (pc := 168) (n := 0) (v := (0 : Int32)) (by decide) (by decide +kernel) ?_
        refine S_sub [6, 5, 4, 3, 2, 1, 0] rfl ?_
        exact pX7_joinTwo_b169 (0 : Int32) a0 v5 v8 v10 v12 v14 v16 h
      · refine s_iconst (pc := 164) (n := 1) (v := (1 : Int32)) (by decide) (by decide +kernel) ?_
        refine s_goto (pc := 165) (off := 4) 169 (by decide +kernel) (by decide) ?_
        refine S_sub [6, 5, 4, 3, 2, 1, 0] rfl ?_
        exact pX7_joinTwo_b169 (1 : Int32) a0 v5 v8 v10 v12 v14 v16 h
theorem tX7_joinTwo (a0 : Nat) (a1 : Int32) (a2 : Int32) (h : xH) : Ct yX7_joinTwo kX7_joinTwo emV [.ref a0, .int a1, .int a2] h (fX7_joinTwo a0 a1 a2 h) := Ct_of (by decide +kernel) rfl rfl rfl (Nat.le_of_ble_eq_true rfl) rfl (pX7_joinTwo_e a0 a1 a2 h)
def fX7_join_b19   (a0 : Nat) (h : xH) : Option (Int32 × xH) :=
  if kc h a0 = 7 then
  bd (fX7_refuse a0 (-2 : Int32) h) (fun w4 g2 =>
  some (w4, g2))
  else none
def fX7_join_b61 (r52 : Nat → Int32 → Int32 → xH → Option (Int32 × xH)) (r61 : Nat → Int32 → Int32 → Int32 → xH → Option (Int32 × xH))  (a0 : Nat) (a3 : Int32) (a4 : Int32) (a5 : Int32) (h : xH) : Option (Int32 × xH) :=
  if kc h a0 = 7 then
  if (hI h a0 26) ≤ a5 then (
  lt (a4 + (1 : Int32)) (fun v2 =>
  r52 a0 a3 v2 h))
  else (
  bd (fX7_joinTwo a0 ((4 : Int32) * a4) ((48 : Int32) + ((4 : Int32) * a5)) h) (fun _ g3 =>
  lt (a5 + (1 : Int32)) (fun v5 =>
  r61 a0 a3 a4 v5 g3)))
  else none
def fX7_join_l61 (r52 : Nat → Int32 → Int32 → xH → Option (Int32 × xH)) : Nat → Nat → Int32 → Int32 → Int32 → xH → Option (Int32 × xH)
  | 0 => fun _ _ _ _ _ => none
  | k + 1 => fX7_join_b61 r52 (fX7_join_l61 r52 k)
def fX7_join_b52 (r52 : Nat → Int32 → Int32 → xH → Option (Int32 × xH))  (a0 : Nat) (a3 : Int32) (a4 : Int32) (h : xH) : Option (Int32 × xH) :=
  if a3 ≤ a4 then (
  if kc h a0 = 7 then
  bd (fX7_onto a0 (5 : Int32) h) (fun w4 g2 =>
  some (w4, g2))
  else none)
  else (
  lt (0 : Int32) (fun v5 =>
  fX7_join_l61 r52 FU a0 a3 a4 v5 h))
def fX7_join_l52  : Nat → Nat → Int32 → Int32 → xH → Option (Int32 × xH)
  | 0 => fun _ _ _ _ => none
  | k + 1 => fX7_join_b52 (fX7_join_l52  k)
def fX7_join   (a0 : Nat) (a1 : Int32) (a2 : Int32) (h : xH) : Option (Int32 × xH) :=
  if kc h a0 = 7 then
  lt (sI h a0 0 (0 : Int32)) (fun g2 =>
  bd (fX7_isStore a1 g2) (fun w6 g4 =>
  if w6 = 0 then (
  fX7_join_b19 a0 g4)
  else (
  bd (fX7_isStore a2 g4) (fun w9 g7 =>
  if w9 = 0 then (
  fX7_join_b19 a0 g7)
  else (
  bd (fX7_laySpans a0 a1 (0 : Int32) g7) (fun _ g11 =>
  lt (hI g11 a0 26) (fun v14 =>
  bd (fX7_laySpans a0 a2 (48 : Int32) g11) (fun _ g15 =>
  lt (sI g15 a0 19 (0 : Int32)) (fun g18 =>
  lt (0 : Int32) (fun v20 =>
  fX7_join_l52 FU a0 v14 v20 g18))))))))))
  else none
theorem pX7_join_b19 {h0 : xH}    (a0 : Nat) (h : xH) : S emI kX7_join h0 19 [(0, .ref a0)] [] h (fX7_join_b19  a0 h) := by
  unfold fX7_join_b19
  refine s_aload_n (pc := 19) (k0 := 0) (i := 0) rfl 0 rfl (by decide +kernel) ?_
  refine s_bipush (pc := 20) (n := -2) (v := (-2 : Int32)) (by decide) (by decide +kernel) ?_
  refine S_gd (fun c1 => ?_)
  refine s_cVi (pc := 22) [.int (-2 : Int32)] (tX7_refuse a0 (-2 : Int32) h) c1 cw_X7_138 rfl ⟨⟨Nat.le_of_ble_eq_true rfl, Nat.le_of_ble_eq_true rfl⟩, Nat.le_of_ble_eq_true rfl⟩ rfl (by decide +kernel) (fun w4 g2 e3 => ?_)
  exact s_iret (pc := 25) rfl (by decide +kernel)
theorem pX7_join_b61 {h0 : xH} {r52 : Nat → Int32 → Int32 → xH → Option (Int32 × xH)} {r61 : Nat → Int32 → Int32 → Int32 → xH → Option (Int32 × xH)} (hr52 : ∀  (a0 : Nat) (a3 : Int32) (a4 : Int32) (g : xH), S emI kX7_join h0 52 [(0, .ref a0), (3, .int a3), (4, .int a4)] [] g (r52  a0 a3 a4 g)) (hr61 : ∀  (a0 : Nat) (a3 : Int32) (a4 : Int32) (a5 : Int32) (g : xH), S emI kX7_join h0 61 [(0, .ref a0), (3, .int a3), (4, .int a4), (5, .int a5)] [] g (r61  a0 a3 a4 a5 g))  (a0 : Nat) (a3 : Int32) (a4 : Int32) (a5 : Int32) (h : xH) : S emI kX7_join h0 61 [(0, .ref a0), (3, .int a3), (4, .int a4), (5, .int a5)] [] h (fX7_join_b61 r52 r61 a0 a3 a4 a5 h) := by
  unfold fX7_join_b61
  refine s_iload (pc := 61) (i := 5) 3 rfl (by decide +kernel) ?_
  refine s_aload_n (pc := 63) (k0 := 0) (i := 0) rfl 0 rfl (by decide +kernel) ?_
  refine S_gd (fun c1 => ?_)
  refine s_getI (pc := 64) (k := 26) c1 ft_X7_165 rfl (by decide +kernel) ?_
  refine s_icmp_ge (pc := 67) (off := 24) 91 (by decide +kernel) (by decide) (fun _ => ?_) (fun _ => ?_)
  · refine s_iinc (pc := 91) (L' := [(4, .int (a4 + (1 : Int32))), (0, .ref a0), (3, .int a3), (5, .int a5)]) (i := 4) (n := 1) 2 rfl rfl (by decide) rfl (by decide +kernel) ?_
    refine s_nmI0 (e := a4 + (1 : Int32)) (L := fun v2 => [(4, .int v2), (0, .ref a0), (3, .int a3), (5, .int a5)]) (fun v2 => ?_)
    refine s_goto (pc := 94) (off := -42) 52 (by decide +kernel) (by decide) ?_
    refine S_sub [1, 2, 0] rfl ?_
    exact hr52 a0 a3 v2 h
  · refine s_aload_n (pc := 70) (k0 := 0) (i := 0) rfl 0 rfl (by decide +kernel) ?_
    refine s_iconst (pc := 71) (n := 4) (v := (4 : Int32)) (by decide) (by decide +kernel) ?_
    refine s_iload (pc := 72) (i := 4) 2 rfl (by decide +kernel) ?_
    refine s_imul (pc := 74) (by decide +kernel) ?_
    refine s_bipush (pc := 75) (n := 48) (v := (48 : Int32)) (by decide) (by decide +kernel) ?_
    refine s_iconst (pc := 77) (n := 4) (v := (4 : Int32)) (by decide) (by decide +kernel) ?_
    refine s_iload (pc := 78) (i := 5) 3 rfl (by decide +kernel) ?_
    refine s_imul (pc := 80) (by decide +kernel) ?_
    refine s_iadd (pc := 81) (by decide +kernel) ?_
    refine s_cVv (pc := 82) [.int ((4 : Int32) * a4), .int ((48 : Int32) + ((4 : Int32) * a5))] (tX7_joinTwo a0 ((4 : Int32) * a4) ((48 : Int32) + ((4 : Int32) * a5)) h) c1 cw_X7_260 rfl ⟨⟨Nat.le_of_ble_eq_true rfl, Nat.le_of_ble_eq_true rfl⟩, Nat.le_of_ble_eq_true rfl⟩ rfl (by decide +kernel) (fun _ g3 e4 => ?_)
    refine s_iinc (pc := 85) (L' := [(5, .int (a5 + (1 : Int32))), (0, .ref a0), (3, .int a3), (4, .int a4)]) (i := 5) (n := 1) 3 rfl rfl (by decide) rfl (by decide +kernel) ?_
    refine s_nmI0 (e := a5 + (1 : Int32)) (L := fun v5 => [(5, .int v5), (0, .ref a0), (3, .int a3), (4, .int a4)]) (fun v5 => ?_)
    refine s_goto (pc := 88) (off := -27) 61 (by decide +kernel) (by decide) ?_
    refine S_sub [1, 2, 3, 0] rfl ?_
    exact hr61 a0 a3 a4 v5 g3
theorem pX7_join_l61 {h0 : xH} {r52 : Nat → Int32 → Int32 → xH → Option (Int32 × xH)} (hr52 : ∀  (a0 : Nat) (a3 : Int32) (a4 : Int32) (g : xH), S emI kX7_join h0 52 [(0, .ref a0), (3, .int a3), (4, .int a4)] [] g (r52  a0 a3 a4 g)) : ∀ (k : Nat)  (a0 : Nat) (a3 : Int32) (a4 : Int32) (a5 : Int32) (h : xH), S emI kX7_join h0 61 [(0, .ref a0), (3, .int a3), (4, .int a4), (5, .int a5)] [] h (fX7_join_l61 r52 k  a0 a3 a4 a5 h) := by
  intro k
  induction k with
  | zero => intros; exact S_none
  | succ k ih => intro  a0 a3 a4 a5 h; exact pX7_join_b61 hr52 ih  a0 a3 a4 a5 h
theorem pX7_join_b52 {h0 : xH} {r52 : Nat → Int32 → Int32 → xH → Option (Int32 × xH)} (hr52 : ∀  (a0 : Nat) (a3 : Int32) (a4 : Int32) (g : xH), S emI kX7_join h0 52 [(0, .ref a0), (3, .int a3), (4, .int a4)] [] g (r52  a0 a3 a4 g))  (a0 : Nat) (a3 : Int32) (a4 : Int32) (h : xH) : S emI kX7_join h0 52 [(0, .ref a0), (3, .int a3), (4, .int a4)] [] h (fX7_join_b52 r52 a0 a3 a4 h) := by
  unfold fX7_join_b52
  refine s_iload (pc := 52) (i := 4) 2 rfl (by decide +kernel) ?_
  refine s_iload_n (pc := 54) (k0 := 3) (i := 3) rfl 1 rfl (by decide +kernel) ?_
  refine s_icmp_ge (pc := 55) (off := 42) 97 (by decide +kernel) (by decide) (fun _ => ?_) (fun _ => ?_)
  · refine s_aload_n (pc := 97) (k0 := 0) (i := 0) rfl 0 rfl (by decide +kernel) ?_
    refine s_iconst (pc := 98) (n := 5) (v := (5 : Int32)) (by decide) (by decide +kernel) ?_
    refine S_gd (fun c1 => ?_)
    refine s_cVi (pc := 99) [.int (5 : Int32)] (tX7_onto a0 (5 : Int32) h) c1 cw_X7_257 rfl ⟨⟨Nat.le_of_ble_eq_true rfl, Nat.le_of_ble_eq_true rfl⟩, Nat.le_of_ble_eq_true rfl⟩ rfl (by decide +kernel) (fun w4 g2 e3 => ?_)
    exact s_iret (pc := 102) rfl (by decide +kernel)
  · refine s_iconst (pc := 58) (n := 0) (v := (0 : Int32)) (by decide) (by decide +kernel) ?_
    refine s_nmI (fun v5 => ?_)
    refine s_istore (pc := 59) (L' := [(5, .int v5), (0, .ref a0), (3, .int a3), (4, .int a4)]) (i := 5) (by decide) rfl (by decide +kernel) ?_
    refine S_sub [1, 2, 3, 0] rfl ?_
    exact pX7_join_l61 hr52 FU a0 a3 a4 v5 h
theorem pX7_join_l52 {h0 : xH}   : ∀ (k : Nat)  (a0 : Nat) (a3 : Int32) (a4 : Int32) (h : xH), S emI kX7_join h0 52 [(0, .ref a0), (3, .int a3), (4, .int a4)] [] h (fX7_join_l52  k  a0 a3 a4 h) := by
  intro k
  induction k with
  | zero => intros; exact S_none
  | succ k ih => intro  a0 a3 a4 h; exact pX7_join_b52 ih  a0 a3 a4 h
theorem pX7_join_e    (a0 : Nat) (a1 : Int32) (a2 : Int32) (h : xH) : S emI kX7_join h 0 [(0, .ref a0), (1, .int a1), (2, .int a2)] [] h (fX7_join  a0 a1 a2 h) := by
  unfold fX7_join
  refine s_aload_n (pc := 0) (k0 := 0) (i := 0) rfl 0 rfl (by decide +kernel) ?_
  refine s_iconst (pc := 1) (n := 0) (v := (0 : Int32)) (by decide) (by decide +kernel) ?_
  refine S_gd (fun c1 => ?_)
  refine s_putI (pc := 2) (k := 0) c1 ft_X7_107 (fw_7_0 _ _) rfl rfl (by decide +kernel) ?_
  refine s_nmH (o := h) rfl (fun g2 e3 => ?_)
  refine s_iload_n (pc := 5) (k0 := 1) (i := 1) rfl 1 rfl (by decide +kernel) ?_
  refine s_cSi (pc := 6) [.int a1] (tX7_isStore a1 g2) cw_X7_247 rfl ⟨⟨Nat.le_of_ble_eq_true rfl, Nat.le_of_ble_eq_true rfl⟩, Nat.le_of_ble_eq_true rfl⟩ rfl (by decide +kernel) (fun w6 g4 e5 => ?_)
  refine s_if_eq (pc := 9) (off := 10) 19 (by decide +kernel) (by decide) (fun _ => ?_) (fun _ => ?_)
  · refine S_sub [0] rfl ?_
    exact pX7_join_b19 a0 g4
  · refine s_iload_n (pc := 12) (k0 := 2) (i := 2) rfl 2 rfl (by decide +kernel) ?_
    refine s_cSi (pc := 13) [.int a2] (tX7_isStore a2 g4) cw_X7_247 rfl ⟨⟨Nat.le_of_ble_eq_true rfl, Nat.le_of_ble_eq_true rfl⟩, Nat.le_of_ble_eq_true rfl⟩ rfl (by decide +kernel) (fun w9 g7 e8 => ?_)
    refine s_if_ne (pc := 16) (off := 10) 26 (by decide +kernel) (by decide) (fun _ => ?_) (fun _ => ?_)
    · refine S_sub [0] rfl ?_
      exact pX7_join_b19 a0 g7
    · refine s_aload_n (pc := 26) (k0 := 0) (i := 0) rfl 0 rfl (by decide +kernel) ?_
      refine s_iload_n (pc := 27) (k0 := 1) (i := 1) rfl 1 rfl (by decide +kernel) ?_
      refine s_iconst (pc := 28) (n := 0) (v := (0 : Int32)) (by decide) (by decide +kernel) ?_
      have c10 := kp (Le.tr e3 (Le.tr e5 e8)) c1 (by decide)
      refine s_cVv (pc := 29) [.int a1, .int (0 : Int32)] (tX7_laySpans a0 a1 (0 : Int32) g7) c10 cw_X7_181 rfl ⟨⟨Nat.le_of_ble_eq_true rfl, Nat.le_of_ble_eq_true rfl⟩, Nat.le_of_ble_eq_true rfl⟩ rfl (by decide +kernel) (fun _ g11 e12 => ?_)
      refine s_aload_n (pc := 32) (k0 := 0) (i := 0) rfl 0 rfl (by decide +kernel) ?_
      have c13 := kp e12 c10 (by decide)
      refine s_getI (pc := 33) (k := 26) c13 ft_X7_165 rfl (by decide +kernel) ?_
      refine s_nmI (fun v14 => ?_)
      refine s_istore_n (pc := 36) (L' := [(3, .int v14), (0, .ref a0), (1, .int a1), (2, .int a2)]) (k0 := 3) (i := 3) rfl (by decide) rfl (by decide +kernel) ?_
      refine s_aload_n (pc := 37) (k0 := 0) (i := 0) rfl 1 rfl (by decide +kernel) ?_
      refine s_iload_n (pc := 38) (k0 := 2) (i := 2) rfl 3 rfl (by decide +kernel) ?_
      refine s_bipush (pc := 39) (n := 48) (v := (48 : Int32)) (by decide) (by decide +kernel) ?_
      refine s_cVv (pc := 41) [.int a2, .int (48 : Int32)] (tX7_laySpans a0 a2 (48 : Int32) g11) c13 cw_X7_181 rfl ⟨⟨Nat.le_of_ble_eq_true rfl, Nat.le_of_ble_eq_true rfl⟩, Nat.le_of_ble_eq_true rfl⟩ rfl (by decide +kernel) (fun _ g15 e16 => ?_)
      refine s_aload_n (pc := 44) (k0 := 0) (i := 0) rfl 1 rfl (by decide +kernel) ?_
      refine s_iconst (pc := 45) (n := 0) (v := (0 : Int32)) (by decide) (by decide +kernel) ?_
      have c17 := kp e16 c13 (by decide)
      refine s_putI (pc := 46) (k := 19) c17 ft_X7_158 (fw_7_19 _ _) rfl rfl (by decide +kernel) ?_
      refine s_nmH (o := g15) rfl (fun g18 e19 => ?_)
      refine s_iconst (pc := 49) (n := 0) (v := (0 : Int32)) (by decide) (by decide +kernel) ?_
      refine s_nmI (fun v20 => ?_)
      refine s_istore (pc := 50) (L' := [(4, .int v20), (3, .int v14), (0, .ref a0), (1, .int a1), (2, .int a2)]) (i := 4) (by decide) rfl (by decide +kernel) ?_
      refine S_sub [2, 1, 0] rfl ?_
      exact pX7_join_l52 FU a0 v14 v20 g18
theorem tX7_join (a0 : Nat) (a1 : Int32) (a2 : Int32) (h : xH) : Ct yX7_join kX7_join emI [.ref a0, .int a1, .int a2] h (fX7_join a0 a1 a2 h) := Ct_of (by decide +kernel) rfl rfl rfl (Nat.le_of_ble_eq_true rfl) rfl (pX7_join_e a0 a1 a2 h)
