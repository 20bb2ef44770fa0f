def fJ9_min_7cf53   (a0 : Int32) (a1 : Int32) (h : xH) : Option (Int32 × xH) :=
  if a1 < a0 then (
  some (a1, h))
  else (
  some (a0, h))
theorem pJ9_min_7cf53_e    (a0 : Int32) (a1 : Int32) (h : xH) : S emI kJ9_min_7cf53 h 0 [(0, .int a0), (1, .int a1)] [] h (fJ9_min_7cf53  a0 a1 h) := by
  unfold fJ9_min_7cf53
  refine s_iload_n (pc := 0) (k0 := 0) (i := 0) rfl 0 rfl (by decide +kernel) ?_
  refine s_iload_n (pc := 1) (k0 := 1) (i := 1) rfl 1 rfl (by decide +kernel) ?_
  refine s_icmp_gt (pc := 2) (off := 7) 9 (by decide +kernel) (by decide) (fun _ => ?_) (fun _ => ?_)
  · refine s_iload_n (pc := 9) (k0 := 1) (i := 1) rfl 1 rfl (by decide +kernel) ?_
    exact s_iret (pc := 10) rfl (by decide +kernel)
  · refine s_iload_n (pc := 5) (k0 := 0) (i := 0) rfl 0 rfl (by decide +kernel) ?_
    refine s_goto (pc := 6) (off := 4) 10 (by decide +kernel) (by decide) ?_
    exact s_iret (pc := 10) rfl (by decide +kernel)
theorem tJ9_min_7cf53 (a0 : Int32) (a1 : Int32) (h : xH) : Ct yJ9_min_7cf53 kJ9_min_7cf53 emI [.int a0, .int a1] h (fJ9_min_7cf53 a0 a1 h) := Ct_of (by decide +kernel) rfl rfl rfl (Nat.le_of_ble_eq_true rfl) rfl (pJ9_min_7cf53_e a0 a1 h)
def fJ9_floorDiv_f86c9   (a0 : Int64) (a2 : Int64) (h : xH) : Option (Int64 × xH) :=
  if ¬ a2 = 0 then
  lt (a0 / a2) (fun v1 =>
  if 0 ≤ (lg_cmp (a0 ^^^ a2) (0 : Int64)) then (
  some (v1, h))
  else (
  if (lg_cmp (v1 * a2) a0) = 0 then (
  some (v1, h))
  else (
  some ((v1 - (1 : Int64)), h))))
  else none
theorem pJ9_floorDiv_f86c9_e    (a0 : Int64) (a2 : Int64) (h : xH) : S emJ kJ9_floorDiv_f86c9 h 0 [(0, .long a0), (2, .long a2)] [] h (fJ9_floorDiv_f86c9  a0 a2 h) := by
  unfold fJ9_floorDiv_f86c9
  refine s_lload_n (pc := 0) (k0 := 0) (i := 0) rfl 0 rfl (by decide +kernel) ?_
  refine s_lload_n (pc := 1) (k0 := 2) (i := 2) rfl 1 rfl (by decide +kernel) ?_
  refine s_ldiv (pc := 2) (by decide +kernel) ?_
  refine s_nmJ (fun v1 => ?_)
  refine s_lstore (pc := 3) (L' := [(4, .long v1), (0, .long a0), (2, .long a2)]) (i := 4) (by decide) rfl (by decide +kernel) ?_
  refine s_lload_n (pc := 5) (k0 := 0) (i := 0) rfl 1 rfl (by decide +kernel) ?_
  refine s_lload_n (pc := 6) (k0 := 2) (i := 2) rfl 2 rfl (by decide +kernel) ?_
  refine s_lxor (pc := 7) (by decide +kernel) ?_
  refine s_lconst (pc := 8) (n := 0) (v := (0 : Int64)) (by decide) (by decide +kernel) ?_
  refine s_lcmp (pc := 9) (by decide +kernel) ?_
  refine s_if_ge (pc := 10) (off := 17) 27 (by decide +kernel) (by decide) (fun _ => ?_) (fun _ => ?_)
  · refine s_lload (pc := 27) (i := 4) 0 rfl (by decide +kernel) ?_
    exact s_lret (pc := 29) rfl (by decide +kernel)
  · refine s_lload (pc := 13) (i := 4) 0 rfl (by decide +kernel) ?_
    refine s_lload_n (pc := 15) (k0 := 2) (i := 2) rfl 2 rfl (by decide +kernel) ?_
    refine s_lmul (pc := 16) (by decide +kernel) ?_
    refine s_lload_n (pc := 17) (k0 := 0) (i := 0) rfl 1 rfl (by decide +kernel) ?_
    refine s_lcmp (pc := 18) (by decide +kernel) ?_
    refine s_if_eq (pc := 19) (off := 8) 27 (by decide +kernel) (by decide) (fun _ => ?_) (fun _ => ?_)
    · refine s_lload (pc := 27) (i := 4) 0 rfl (by decide +kernel) ?_
      exact s_lret (pc := 29) rfl (by decide +kernel)
    · refine s_lload (pc := 22) (i := 4) 0 rfl (by decide +kernel) ?_
      refine s_lconst (pc := 24) (n := 1) (v := (1 : Int64)) (by decide) (by decide +kernel) ?_
      refine s_lsub (pc := 25) (by decide +kernel) ?_
      exact s_lret (pc := 26) rfl (by decide +kernel)
theorem tJ9_floorDiv_f86c9 (a0 : Int64) (a2 : Int64) (h : xH) : Ct yJ9_floorDiv_f86c9 kJ9_floorDiv_f86c9 emJ [.long a0, .long a2] h (fJ9_floorDiv_f86c9 a0 a2 h) := Ct_of (by decide +kernel) rfl rfl rfl (Nat.le_of_ble_eq_true rfl) rfl (pJ9_floorDiv_f86c9_e a0 a2 h)
def fJ13_compare_74951   (a0 : Int64) (a2 : Int64) (h : xH) : Option (Int32 × xH) :=
  if 0 ≤ (lg_cmp a0 a2) then (
  if (lg_cmp a0 a2) = 0 then (
  some ((0 : Int32), h))
  else (
  some ((1 : Int32), h)))
  else (
  some ((-1 : Int32), h))
theorem pJ13_compare_74951_e    (a0 : Int64) (a2 : Int64) (h : xH) : S emI kJ13_compare_74951 h 0 [(0, .long a0), (2, .long a2)] [] h (fJ13_compare_74951  a0 a2 h) := by
  unfold fJ13_compare_74951
  refine s_lload_n (pc := 0) (k0 := 0) (i := 0) rfl 0 rfl (by decide +kernel) ?_
  refine s_lload_n (pc := 1) (k0 := 2) (i := 2) rfl 1 rfl (by decide +kernel) ?_
  refine s_lcmp (pc := 2) (by decide +kernel) ?_
  refine s_if_ge (pc := 3) (off := 7) 10 (by decide +kernel) (by decide) (fun _ => ?_) (fun _ => ?_)
  · refine s_lload_n (pc := 10) (k0 := 0) (i := 0) rfl 0 rfl (by decide +kernel) ?_
    refine s_lload_n (pc := 11) (k0 := 2) (i := 2) rfl 1 rfl (by decide +kernel) ?_
    refine s_lcmp (pc := 12) (by decide +kernel) ?_
    refine s_if_ne (pc := 13) (off := 7) 20 (by decide +kernel) (by decide) (fun _ => ?_) (fun _ => ?_)
    · refine s_iconst (pc := 16) (n := 0) (v := (0 : Int32)) (by decide) (by decide +kernel) ?_
      refine s_goto (pc := 17) (off := 4) 21 (by decide +kernel) (by decide) ?_
      exact s_iret (pc := 21) rfl (by decide +kernel)
    · refine s_iconst (pc := 20) (n := 1) (v := (1 : Int32)) (by decide) (by decide +kernel) ?_
      exact s_iret (pc := 21) rfl (by decide +kernel)
  · refine s_iconst (pc := 6) (n := -1) (v := (-1 : Int32)) (by decide) (by decide +kernel) ?_
    refine s_goto (pc := 7) (off := 14) 21 (by decide +kernel) (by decide) ?_
    exact s_iret (pc := 21) rfl (by decide +kernel)
theorem tJ13_compare_74951 (a0 : Int64) (a2 : Int64) (h : xH) : Ct yJ13_compare_74951 kJ13_compare_74951 emI [.long a0, .long a2] h (fJ13_compare_74951 a0 a2 h) := Ct_of (by decide +kernel) rfl rfl rfl (Nat.le_of_ble_eq_true rfl) rfl (pJ13_compare_74951_e a0 a2 h)
def fJ9_abs_067f4   (a0 : Int64) (h : xH) : Option (Int64 × xH) :=
  if 0 ≤ (lg_cmp a0 (0 : Int64)) then (
  some (a0, h))
  else (
  some ((-a0), h))
theorem pJ9_abs_067f4_e    (a0 : Int64) (h : xH) : S emJ kJ9_abs_067f4 h 0 [(0, .long a0)] [] h (fJ9_abs_067f4  a0 h) := by
  unfold fJ9_abs_067f4
  refine s_lload_n (pc := 0) (k0 := 0) (i := 0) rfl 0 rfl (by decide +kernel) ?_
  refine s_lconst (pc := 1) (n := 0) (v := (0 : Int64)) (by decide) (by decide +kernel) ?_
  refine s_lcmp (pc := 2) (by decide +kernel) ?_
  refine s_if_ge (pc := 3) (off := 8) 11 (by decide +kernel) (by decide) (fun _ => ?_) (fun _ => ?_)
  · refine s_lload_n (pc := 11) (k0 := 0) (i := 0) rfl 0 rfl (by decide +kernel) ?_
    exact s_lret (pc := 12) rfl (by decide +kernel)
  · refine s_lload_n (pc := 6) (k0 := 0) (i := 0) rfl 0 rfl (by decide +kernel) ?_
    refine s_lneg (pc := 7) (by decide +kernel) ?_
    refine s_goto (pc := 8) (off := 4) 12 (by decide +kernel) (by decide) ?_
    exact s_lret (pc := 12) rfl (by decide +kernel)
theorem tJ9_abs_067f4 (a0 : Int64) (h : xH) : Ct yJ9_abs_067f4 kJ9_abs_067f4 emJ [.long a0] h (fJ9_abs_067f4 a0 h) := Ct_of (by decide +kernel) rfl rfl rfl (Nat.le_of_ble_eq_true rfl) rfl (pJ9_abs_067f4_e a0 h)
def fJ9_max_7cf53   (a0 : Int32) (a1 : Int32) (h : xH) : Option (Int32 × xH) :=
  if a0 < a1 then (
  some (a1, h))
  else (
  some (a0, h))
theorem pJ9_max_7cf53_e    (a0 : Int32) (a1 : Int32) (h : xH) : S emI kJ9_max_7cf53 h 0 [(0, .int a0), (1, .int a1)] [] h (fJ9_max_7cf53  a0 a1 h) := by
  unfold fJ9_max_7cf53
  refine s_iload_n (pc := 0) (k0 := 0) (i := 0) rfl 0 rfl (by decide +kernel) ?_
  refine s_iload_n (pc := 1) (k0 := 1) (i := 1) rfl 1 rfl (by decide +kernel) ?_
  refine s_icmp_lt (pc := 2) (off := 7) 9 (by decide +kernel) (by decide) (fun _ => ?_) (fun _ => ?_)
  · refine s_iload_n (pc := 9) (k0 := 1) (i := 1) rfl 1 rfl (by decide +kernel) ?_
    exact s_iret (pc := 10) rfl (by decide +kernel)
  · refine s_iload_n (pc := 5) (k0 := 0) (i := 0) rfl 0 rfl (by decide +kernel) ?_
    refine s_goto (pc := 6) (off := 4) 10 (by decide +kernel) (by decide) ?_
    exact s_iret (pc := 10) rfl (by decide +kernel)
theorem tJ9_max_7cf53 (a0 : Int32) (a1 : Int32) (h : xH) : Ct yJ9_max_7cf53 kJ9_max_7cf53 emI [.int a0, .int a1] h (fJ9_max_7cf53 a0 a1 h) := Ct_of (by decide +kernel) rfl rfl rfl (Nat.le_of_ble_eq_true rfl) rfl (pJ9_max_7cf53_e a0 a1 h)
def fJ7_copyOf_c38d5   (a0 : Nat) (a1 : Int32) (h : xH) : Option (Nat × xH) :=
  if kc h a0 = 9 then
  if a1 = (Int32.ofNat (kl h a0)) then (
  none)
  else (
  if ¬ a1 < 0 ∧ a1.toNatClampNeg ≤ 60000 then
  lt (hnx h) (fun q4 => lt (hnew h 9 a1.toNatClampNeg) (fun g3 =>
  bd (fJ9_min_7cf53 (Int32.ofNat (kl g3 a0)) a1 g3) (fun w10 g8 =>
  if cpOk 9 g8 a0 q4 (0 : Int32) (0 : Int32) w10 then
  lt (cpJ g8 a0 (0 : Int32).toNatClampNeg q4 (0 : Int32).toNatClampNeg w10.toNatClampNeg) (fun g12 =>
  some (q4, g12))
  else none)))
  else none)
  else none
theorem pJ7_copyOf_c38d5_e    (a0 : Nat) (a1 : Int32) (h : xH) : S emR kJ7_copyOf_c38d5 h 0 [(0, .ref a0), (1, .int a1)] [] h (fJ7_copyOf_c38d5  a0 a1 h) := by
  unfold fJ7_copyOf_c38d5
  refine s_iload_n (pc := 0) (k0 := 1) (i := 1) rfl 1 rfl (by decide +kernel) ?_
  refine s_aload_n (pc := 1) (k0 := 0) (i := 0) rfl 0 rfl (by decide +kernel) ?_
  refine S_gd (fun c1 => ?_)
  refine s_alen (pc := 2) (by rw [c1]; decide) (by decide +kernel) ?_
  refine s_icmp_ne (pc := 3) (off := 11) 14 (by decide +kernel) (by decide) (fun _ => ?_) (fun _ => ?_)
  · refine s_aload_n (pc := 6) (k0 := 0) (i := 0) rfl 0 rfl (by decide +kernel) ?_
    exact S_none
  · refine s_iload_n (pc := 14) (k0 := 1) (i := 1) rfl 1 rfl (by decide +kernel) ?_
    refine S_gd (fun c2 => ?_)
    refine s_newJ (pc := 15) c2 (by decide +kernel) ?_
    refine s_nmN (fun q4 g3 c6 e5 => ?_)
    refine s_astore_n (pc := 17) (L' := [(2, .ref q4), (0, .ref a0), (1, .int a1)]) (k0 := 2) (i := 2) rfl (by decide) rfl (by decide +kernel) ?_
    refine s_aload_n (pc := 18) (k0 := 0) (i := 0) rfl 1 rfl (by decide +kernel) ?_
    refine s_iconst (pc := 19) (n := 0) (v := (0 : Int32)) (by decide) (by decide +kernel) ?_
    refine s_aload_n (pc := 20) (k0 := 2) (i := 2) rfl 0 rfl (by decide +kernel) ?_
    refine s_iconst (pc := 21) (n := 0) (v := (0 : Int32)) (by decide) (by decide +kernel) ?_
    refine s_aload_n (pc := 22) (k0 := 0) (i := 0) rfl 1 rfl (by decide +kernel) ?_
    have c7 := kp e5 c1 (by decide)
    refine s_alen (pc := 23) (by rw [c7]; decide) (by decide +kernel) ?_
    refine s_iload_n (pc := 24) (k0 := 1) (i := 1) rfl 2 rfl (by decide +kernel) ?_
    refine s_cSi (pc := 25) [.int (Int32.ofNat (kl g3 a0)), .int a1] (tJ9_min_7cf53 (Int32.ofNat (kl g3 a0)) a1 g3) cw_J7_304 rfl ⟨⟨Nat.le_of_ble_eq_true rfl, Nat.le_of_ble_eq_true rfl⟩, Nat.le_of_ble_eq_true rfl⟩ rfl (by decide +kernel) (fun w10 g8 e9 => ?_)
    refine S_gd (fun c11 => ?_)
    refine s_copyJ (pc := 28) (index := 150) c11 ml_J7_150 ac_1 ac_2 ac_3 ⟨by decide, Nat.le_of_ble_eq_true rfl⟩ (by decide +kernel) ?_
    refine s_nmH (o := g8) rfl (fun g12 e13 => ?_)
    refine s_aload_n (pc := 31) (k0 := 2) (i := 2) rfl 0 rfl (by decide +kernel) ?_
    exact s_aret (pc := 32) rfl rfl (by decide +kernel)
theorem tJ7_copyOf_c38d5 (a0 : Nat) (a1 : Int32) (h : xH) : Ct yJ7_copyOf_c38d5 kJ7_copyOf_c38d5 emR [.ref a0, .int a1] h (fJ7_copyOf_c38d5 a0 a1 h) := Ct_of (by decide +kernel) rfl rfl rfl (Nat.le_of_ble_eq_true rfl) rfl (pJ7_copyOf_c38d5_e a0 a1 h)
def fJ7_copyOf_59c91   (a0 : Nat) (a1 : Int32) (h : xH) : Option (Nat × xH) :=
  if kc h a0 = 8 then
  if a1 = (Int32.ofNat (kl h a0)) then (
  none)
  else (
  if ¬ a1 < 0 ∧ a1.toNatClampNeg ≤ 60000 then
  lt (hnx h) (fun q4 => lt (hnew h 8 a1.toNatClampNeg) (fun g3 =>
  bd (fJ9_min_7cf53 (Int32.ofNat (kl g3 a0)) a1 g3) (fun w10 g8 =>
  if cpOk 8 g8 a0 q4 (0 : Int32) (0 : Int32) w10 then
  lt (cpI g8 a0 (0 : Int32).toNatClampNeg q4 (0 : Int32).toNatClampNeg w10.toNatClampNeg) (fun g12 =>
  some (q4, g12))
  else none)))
  else none)
  else none
theorem pJ7_copyOf_59c91_e    (a0 : Nat) (a1 : Int32) (h : xH) : S emR kJ7_copyOf_59c91 h 0 [(0, .ref a0), (1, .int a1)] [] h (fJ7_copyOf_59c91  a0 a1 h) := by
  unfold fJ7_copyOf_59c91
  refine s_iload_n (pc := 0) (k0 := 1) (i := 1) rfl 1 rfl (by decide +kernel) ?_
  refine s_aload_n (pc := 1) (k0 := 0) (i := 0) rfl 0 rfl (by decide +kernel) ?_
  refine S_gd (fun c1 => ?_)
  refine s_alen (pc := 2) (by rw [c1]; decide) (by decide +kernel) ?_
  refine s_icmp_ne (pc := 3) (off := 11) 14 (by decide +kernel) (by decide) (fun _ => ?_) (fun _ => ?_)
  · refine s_aload_n (pc := 6) (k0 := 0) (i := 0) rfl 0 rfl (by decide +kernel) ?_
    exact S_none
  · refine s_iload_n (pc := 14) (k0 := 1) (i := 1) rfl 1 rfl (by decide +kernel) ?_
    refine S_gd (fun c2 => ?_)
    refine s_newI (pc := 15) c2 (by decide +kernel) ?_
    refine s_nmN (fun q4 g3 c6 e5 => ?_)
    refine s_astore_n (pc := 17) (L' := [(2, .ref q4), (0, .ref a0), (1, .int a1)]) (k0 := 2) (i := 2) rfl (by decide) rfl (by decide +kernel) ?_
    refine s_aload_n (pc := 18) (k0 := 0) (i := 0) rfl 1 rfl (by decide +kernel) ?_
    refine s_iconst (pc := 19) (n := 0) (v := (0 : Int32)) (by decide) (by decide +kernel) ?_
    refine s_aload_n (pc := 20) (k0 := 2) (i := 2) rfl 0 rfl (by decide +kernel) ?_
    refine s_iconst (pc := 21) (n := 0) (v := (0 : Int32)) (by decide) (by decide +kernel) ?_
    refine s_aload_n (pc := 22) (k0 := 0) (i := 0) rfl 1 rfl (by decide +kernel) ?_
    have c7 := kp e5 c1 (by decide)
    refine s_alen (pc := 23) (by rw [c7]; decide) (by decide +kernel) ?_
    refine s_iload_n (pc := 24) (k0 := 1) (i := 1) rfl 2 rfl (by decide +kernel) ?_
    refine s_cSi (pc := 25) [.int (Int32.ofNat (kl g3 a0)), .int a1] (tJ9_min_7cf53 (Int32.ofNat (kl g3 a0)) a1 g3) cw_J7_304 rfl ⟨⟨Nat.le_of_ble_eq_true rfl, Nat.le_of_ble_eq_true rfl⟩, Nat.le_of_ble_eq_true rfl⟩ rfl (by decide +kernel) (fun w10 g8 e9 => ?_)
    refine S_gd (fun c11 => ?_)
    refine s_copyI (pc := 28) (index := 150) c11 ml_J7_150 ac_1 ac_2 ac_3 ⟨by decide, Nat.le_of_ble_eq_true rfl⟩ (by decide +kernel) ?_
    refine s_nmH (o := g8) rfl (fun g12 e13 => ?_)
    refine s_aload_n (pc := 31) (k0 := 2) (i := 2) rfl 0 rfl (by decide +kernel) ?_
    exact s_aret (pc := 32) rfl rfl (by decide +kernel)
theorem tJ7_copyOf_59c91 (a0 : Nat) (a1 : Int32) (h : xH) : Ct yJ7_copyOf_59c91 kJ7_copyOf_59c91 emR [.ref a0, .int a1] h (fJ7_copyOf_59c91 a0 a1 h) := Ct_of (by decide +kernel) rfl rfl rfl (Nat.le_of_ble_eq_true rfl) rfl (pJ7_copyOf_59c91_e a0 a1 h)
def fJxf58ca_isNaN_12338   (a0 : UInt32) (h : xH) : Option (Int32 × xH) :=
  if (Op.cmpValue (FP.fcmp a0 a0) .l) = 0 then (
  some ((0 : Int32), h))
  else (
  some ((1 : Int32), h))
theorem pJxf58ca_isNaN_12338_e    (a0 : UInt32) (h : xH) : S emI kJxf58ca_isNaN_12338 h 0 [(0, .float a0)] [] h (fJxf58ca_isNaN_12338  a0 h) := by
  unfold fJxf58ca_isNaN_12338
  refine s_fload_n (pc := 0) (k0 := 0) (i := 0) rfl 0 rfl (by decide +kernel) ?_
  refine s_fload_n (pc := 1) (k0 := 0) (i := 0) rfl 0 rfl (by decide +kernel) ?_
  refine s_fcmp (pc := 2) (op := .l) (by decide +kernel) ?_
  refine s_if_eq (pc := 3) (off := 7) 10 (by decide +kernel) (by decide) (fun _ => ?_) (fun _ => ?_)
  · refine s_iconst (pc := 10) (n := 0) (v := (0 : Int32)) (by decide) (by decide +kernel) ?_
    exact s_zret (pc := 11) (by decide) rfl (by decide +kernel)
  · refine s_iconst (pc := 6) (n := 1) (v := (1 : Int32)) (by decide) (by decide +kernel) ?_
    refine s_goto (pc := 7) (off := 4) 11 (by decide +kernel) (by decide) ?_
    exact s_zret (pc := 11) (by decide) rfl (by decide +kernel)
theorem tJxf58ca_isNaN_12338 (a0 : UInt32) (h : xH) : Ct yJxf58ca_isNaN_12338 kJxf58ca_isNaN_12338 emI [.float a0] h (fJxf58ca_isNaN_12338 a0 h) := Ct_of (by decide +kernel) rfl rfl rfl (Nat.le_of_ble_eq_true rfl) rfl (pJxf58ca_isNaN_12338_e a0 h)
def fJxf58ca_floatToIntBits_5c35a   (a0 : UInt32) (h : xH) : Option (Int32 × xH) :=
  bd (fJxf58ca_isNaN_12338 a0 h) (fun w3 g1 =>
  if w3 = 0 then (
  some (a0.toInt32, g1))
  else (
  some ((2143289344 : Int32), g1)))
theorem pJxf58ca_floatToIntBits_5c35a_e    (a0 : UInt32) (h : xH) : S emI kJxf58ca_floatToIntBits_5c35a h 0 [(0, .float a0)] [] h (fJxf58ca_floatToIntBits_5c35a  a0 h) := by
  unfold fJxf58ca_floatToIntBits_5c35a
  refine s_fload_n (pc := 0) (k0 := 0) (i := 0) rfl 0 rfl (by decide +kernel) ?_
  refine s_cSi (pc := 1) [.float a0] (tJxf58ca_isNaN_12338 a0 h) cw_Jxf58ca_59 rfl ⟨⟨Nat.le_of_ble_eq_true rfl, Nat.le_of_ble_eq_true rfl⟩, Nat.le_of_ble_eq_true rfl⟩ rfl (by decide +kernel) (fun w3 g1 e2 => ?_)
  refine s_if_ne (pc := 4) (off := 8) 12 (by decide +kernel) (by decide) (fun _ => ?_) (fun _ => ?_)
  · refine s_fload_n (pc := 7) (k0 := 0) (i := 0) rfl 0 rfl (by decide +kernel) ?_
    refine s_f2b (pc := 8) (index := 74) ml_Jxf58ca_74 fb_1 fb_2 fb_3 (by decide) (by decide +kernel) ?_
    exact s_iret (pc := 11) rfl (by decide +kernel)
  · refine s_ldc (pc := 12) (v := (2143289344 : Int32)) (index := 77) (gd_of 1329 (by decide +kernel) rfl) (by decide +kernel) ?_
    exact s_iret (pc := 14) rfl (by decide +kernel)
theorem tJxf58ca_floatToIntBits_5c35a (a0 : UInt32) (h : xH) : Ct yJxf58ca_floatToIntBits_5c35a kJxf58ca_floatToIntBits_5c35a emI [.float a0] h (fJxf58ca_floatToIntBits_5c35a a0 h) := Ct_of (by decide +kernel) rfl rfl rfl (Nat.le_of_ble_eq_true rfl) rfl (pJxf58ca_floatToIntBits_5c35a_e a0 h)
def fJ9_max_f86c9   (a0 : Int64) (a2 : Int64) (h : xH) : Option (Int64 × xH) :=
  if (lg_cmp a0 a2) < 0 then (
  some (a2, h))
  else (
  some (a0, h))
theorem pJ9_max_f86c9_e    (a0 : Int64) (a2 : Int64) (h : xH) : S emJ kJ9_max_f86c9 h 0 [(0, .long a0), (2, .long a2)] [] h (fJ9_max_f86c9  a0 a2 h) := by
  unfold fJ9_max_f86c9
  refine s_lload_n (pc := 0) (k0 := 0) (i := 0) rfl 0 rfl (by decide +kernel) ?_
  refine s_lload_n (pc := 1) (k0 := 2) (i := 2) rfl 1 rfl (by decide +kernel) ?_
  refine s_lcmp (pc := 2) (by decide +kernel) ?_
  refine s_if_lt (pc := 3) (off := 7) 10 (by decide +kernel) (by decide) (fun _ => ?_) (fun _ => ?_)
  · refine s_lload_n (pc := 10) (k0 := 2) (i := 2) rfl 1 rfl (by decide +kernel) ?_
    exact s_lret (pc := 11) rfl (by decide +kernel)
  · refine s_lload_n (pc := 6) (k0 := 0) (i := 0) rfl 0 rfl (by decide +kernel) ?_
    refine s_goto (pc := 7) (off := 4) 11 (by decide +kernel) (by decide) ?_
    exact s_lret (pc := 11) rfl (by decide +kernel)
theorem tJ9_max_f86c9 (a0 : Int64) (a2 : Int64) (h : xH) : Ct yJ9_max_f86c9 kJ9_max_f86c9 emJ [.long a0, .long a2] h (fJ9_max_f86c9 a0 a2 h) := Ct_of (by decide +kernel) rfl rfl rfl (Nat.le_of_ble_eq_true rfl) rfl (pJ9_max_f86c9_e a0 a2 h)
def fJ9_min_f86c9   (a0 : Int64) (a2 : Int64) (h : xH) : Option (Int64 × xH) :=
  if 0 < (lg_cmp a0 a2) then (
  some (a2, h))
  else (
  some (a0, h))
theorem pJ9_min_f86c9_e    (a0 : Int64) (a2 : Int64) (h : xH) : S emJ kJ9_min_f86c9 h 0 [(0, .long a0), (2, .long a2)] [] h (fJ9_min_f86c9  a0 a2 h) := by
  unfold fJ9_min_f86c9
  refine s_lload_n (pc := 0) (k0 := 0) (i := 0) rfl 0 rfl (by decide +kernel) ?_
  refine s_lload_n (pc := 1) (k0 := 2) (i := 2) rfl 1 rfl (by decide +kernel) ?_
  refine s_lcmp (pc := 2) (by decide +kernel) ?_
  refine s_if_gt (pc := 3) (off := 7) 10 (by decide +kernel) (by decide) (fun _ => ?_) (fun _ => ?_)
  · refine s_lload_n (pc := 10) (k0 := 2) (i := 2) rfl 1 rfl (by decide +kernel) ?_
    exact s_lret (pc := 11) rfl (by decide +kernel)
  · refine s_lload_n (pc := 6) (k0 := 0) (i := 0) rfl 0 rfl (by decide +kernel) ?_
    refine s_goto (pc := 7) (off := 4) 11 (by decide +kernel) (by decide) ?_
    exact s_lret (pc := 11) rfl (by decide +kernel)
theorem tJ9_min_f86c9 (a0 : Int64) (a2 : Int64) (h : xH) : Ct yJ9_min_f86c9 kJ9_min_f86c9 emJ [.long a0, .long a2] h (fJ9_min_f86c9 a0 a2 h) := Ct_of (by decide +kernel) rfl rfl rfl (Nat.le_of_ble_eq_true rfl) rfl (pJ9_min_f86c9_e a0 a2 h)
