def fX6_init_b193 (r193 : Nat → Int32 → xH → Option (Unit × xH))  (a0 : Nat) (a1 : Int32) (h : xH) : Option (Unit × xH) :=
  if (14 : Int32) ≤ a1 then (
  some ((), h))
  else (
  if kc h a0 = 6 then
  lt (hnx h) (fun q3 => lt (hnew h 4 0) (fun g2 =>
  bd (fX4_init q3 g2) (fun _ g6 =>
  if kc g6 (hR h a0 3) = 12 then
  if ix a1 (kl g6 (hR h a0 3)) then
  lt (sR g6 (hR h a0 3) a1.toNatClampNeg q3) (fun g11 =>
  lt (a1 + (1 : Int32)) (fun v13 =>
  r193 a0 v13 g11))
  else none
  else none)))
  else none)
def fX6_init_l193  : Nat → Nat → Int32 → xH → Option (Unit × xH)
  | 0 => fun _ _ _ => none
  | k + 1 => fX6_init_b193 (fX6_init_l193  k)
def fX6_init_b166 (r166 : Nat → Int32 → xH → Option (Unit × xH))  (a0 : Nat) (a1 : Int32) (h : xH) : Option (Unit × xH) :=
  if (7 : Int32) ≤ a1 then (
  lt (0 : Int32) (fun v1 =>
  fX6_init_l193 FU a0 v1 h))
  else (
  if kc h a0 = 6 then
  lt (hnx h) (fun q4 => lt (hnew h 4 0) (fun g3 =>
  bd (fX4_init q4 g3) (fun _ g7 =>
  if kc g7 (hR h a0 0) = 12 then
  if ix a1 (kl g7 (hR h a0 0)) then
  lt (sR g7 (hR h a0 0) a1.toNatClampNeg q4) (fun g12 =>
  lt (a1 + (1 : Int32)) (fun v14 =>
  r166 a0 v14 g12))
  else none
  else none)))
  else none)
def fX6_init_l166  : Nat → Nat → Int32 → xH → Option (Unit × xH)
  | 0 => fun _ _ _ => none
  | k + 1 => fX6_init_b166 (fX6_init_l166  k)
def fX6_init   (a0 : Nat) (h : xH) : Option (Unit × xH) :=
  if kc h a0 = 6 then
  lt (hnx h) (fun q3 => lt (hnew h 12 (7 : Int32).toNatClampNeg) (fun g2 =>
  lt (sR g2 a0 0 q3) (fun g7 =>
  lt (hnx g7) (fun q10 => lt (hnew g7 4 0) (fun g9 =>
  bd (fX4_init q10 g9) (fun _ g13 =>
  lt (sR g13 a0 1 q10) (fun g16 =>
  lt (hnx g16) (fun q19 => lt (hnew g16 0 0) (fun g18 =>
  bd (fX0_init q19 g18) (fun _ g22 =>
  lt (sR g22 a0 2 q19) (fun g25 =>
  lt (hnx g25) (fun q28 => lt (hnew g25 12 (14 : Int32).toNatClampNeg) (fun g27 =>
  lt (sR g27 a0 3 q28) (fun g32 =>
  lt (hnx g32) (fun q35 => lt (hnew g32 10 (2 : Int32).toNatClampNeg) (fun g34 =>
  lt (sR g34 a0 4 q35) (fun g39 =>
  lt (hnx g39) (fun q42 => lt (hnew g39 5 0) (fun g41 =>
  bd (fX5_init q42 g41) (fun _ g45 =>
  lt (sR g45 a0 5 q42) (fun g48 =>
  lt (sI g48 a0 6 (0 : Int32)) (fun g51 =>
  lt (hnx g51) (fun q54 => lt (hnew g51 8 (7 : Int32).toNatClampNeg) (fun g53 =>
  lt (sR g53 a0 7 q54) (fun g58 =>
  lt (hnx g58) (fun q61 => lt (hnew g58 1 0) (fun g60 =>
  bd (fX1_init q61 (288 : Int32) g60) (fun _ g64 =>
  lt (sR g64 a0 8 q61) (fun g67 =>
  lt (hnx g67) (fun q70 => lt (hnew g67 1 0) (fun g69 =>
  bd (fX1_init q70 (12 : Int32) g69) (fun _ g73 =>
  lt (sR g73 a0 9 q70) (fun g76 =>
  lt (hnx g76) (fun q79 => lt (hnew g76 1 0) (fun g78 =>
  bd (fX1_init q79 (12 : Int32) g78) (fun _ g82 =>
  lt (sR g82 a0 10 q79) (fun g85 =>
  lt (hnx g85) (fun q88 => lt (hnew g85 2 0) (fun g87 =>
  bd (fX2_init q88 g87) (fun _ g91 =>
  lt (sR g91 a0 11 q88) (fun g94 =>
  lt (hnx g94) (fun q97 => lt (hnew g94 2 0) (fun g96 =>
  bd (fX2_init q97 g96) (fun _ g100 =>
  lt (sR g100 a0 12 q97) (fun g103 =>
  lt (hnx g103) (fun q106 => lt (hnew g103 2 0) (fun g105 =>
  bd (fX2_init q106 g105) (fun _ g109 =>
  lt (sR g109 a0 13 q106) (fun g112 =>
  lt (sI g112 a0 14 (0 : Int32)) (fun g115 =>
  lt (hnx g115) (fun q118 => lt (hnew g115 3 0) (fun g117 =>
  bd (fX3_init q118 g117) (fun _ g121 =>
  lt (sR g121 a0 15 q118) (fun g124 =>
  lt (0 : Int32) (fun v126 =>
  fX6_init_l166 FU a0 v126 g124)))))))))))))))))))))))))))))))))))))))))))))))))))))))
  else none
theorem pX6_init_b193 {h0 : xH} {r193 : Nat → Int32 → xH → Option (Unit × xH)} (hr193 : ∀  (a0 : Nat) (a1 : Int32) (g : xH), S emV kX6_init h0 193 [(0, .ref a0), (1, .int a1)] [] g (r193  a0 a1 g))  (a0 : Nat) (a1 : Int32) (h : xH) : S emV kX6_init h0 193 [(0, .ref a0), (1, .int a1)] [] h (fX6_init_b193 r193 a0 a1 h) := by
  unfold fX6_init_b193
  refine s_iload_n (pc := 193) (k0 := 1) (i := 1) rfl 1 rfl (by decide +kernel) ?_
  refine s_bipush (pc := 194) (n := 14) (v := (14 : Int32)) (by decide) (by decide +kernel) ?_
  refine s_icmp_ge (pc := 196) (off := 22) 218 (by decide +kernel) (by decide) (fun _ => ?_) (fun _ => ?_)
  · exact s_vret (pc := 218) rfl (by decide +kernel)
  · refine s_aload_n (pc := 199) (k0 := 0) (i := 0) rfl 0 rfl (by decide +kernel) ?_
    refine S_gd (fun c1 => ?_)
    refine s_getR (pc := 200) (k := 3) c1 ft_X6_31 rfl (by decide +kernel) ?_
    refine s_iload_n (pc := 203) (k0 := 1) (i := 1) rfl 1 rfl (by decide +kernel) ?_
    refine s_new (pc := 204) nt_X6_13 dv_4 (by decide +kernel) ?_
    refine s_nmN (fun q3 g2 c5 e4 => ?_)
    refine s_dup_a (pc := 207) (by decide +kernel) ?_
    refine s_cIN (pc := 208) [] (tX4_init q3 g2) (k2r c5 (by decide)) rfl cw_X6_19 rfl (mwi_X4_init) rfl ⟨⟨Nat.le_of_ble_eq_true rfl, Nat.le_of_ble_eq_true rfl⟩, Nat.le_of_ble_eq_true rfl⟩ rfl (by decide +kernel) (fun _ g6 e7 => ?_)
    have c8 := kp e7 c5 (by decide)
    refine S_gd (fun c9 => ?_)
    refine S_gd (fun c10 => ?_)
    refine s_aast (pc := 211) c8 c9 c10 (by decide +kernel) ?_
    refine s_nmH (o := g6) rfl (fun g11 e12 => ?_)
    refine s_iinc (pc := 212) (L' := [(1, .int (a1 + (1 : Int32))), (0, .ref a0)]) (i := 1) (n := 1) 1 rfl rfl (by decide) rfl (by decide +kernel) ?_
    refine s_nmI0 (e := a1 + (1 : Int32)) (L := fun v13 => [(1, .int v13), (0, .ref a0)]) (fun v13 => ?_)
    refine s_goto (pc := 215) (off := -22) 193 (by decide +kernel) (by decide) ?_
    refine S_sub [1, 0] rfl ?_
    exact hr193 a0 v13 g11
theorem pX6_init_l193 {h0 : xH}   : ∀ (k : Nat)  (a0 : Nat) (a1 : Int32) (h : xH), S emV kX6_init h0 193 [(0, .ref a0), (1, .int a1)] [] h (fX6_init_l193  k  a0 a1 h) := by
  intro k
  induction k with
  | zero => intros; exact S_none
  | succ k ih => intro  a0 a1 h; exact pX6_init_b193 ih  a0 a1 h
theorem pX6_init_b166 {h0 : xH} {r166 : Nat → Int32 → xH → Option (Unit × xH)} (hr166 : ∀  (a0 : Nat) (a1 : Int32) (g : xH), S emV kX6_init h0 166 [(0, .ref a0), (1, .int a1)] [] g (r166  a0 a1 g))  (a0 : Nat) (a1 : Int32) (h : xH) : S emV kX6_init h0 166 [(0, .ref a0), (1, .int a1)] [] h (fX6_init_b166 r166 a0 a1 h) := by
  unfold fX6_init_b166
  refine s_iload_n (pc := 166) (k0 := 1) (i := 1) rfl 1 rfl (by decide +kernel) ?_
  refine s_bipush (pc := 167) (n := 7) (v := (7 : Int32)) (by decide) (by decide +kernel) ?_
  refine s_icmp_ge (pc := 169) (off := 22) 191 (by decide +kernel) (by decide) (fun _ => ?_) (fun _ => ?_)
  · refine s_iconst (pc := 191) (n := 0) (v := (0 : Int32)) (by decide) (by decide +kernel) ?_
    refine s_nmI (fun v1 => ?_)
    refine s_istore_n (pc := 192) (L' := [(1, .int v1), (0, .ref a0)]) (k0 := 1) (i := 1) rfl (by decide) rfl (by decide +kernel) ?_
    refine S_sub [1, 0] rfl ?_
    exact pX6_init_l193 FU a0 v1 h
  · refine s_aload_n (pc := 172) (k0 := 0) (i := 0) rfl 0 rfl (by decide +kernel) ?_
    refine S_gd (fun c2 => ?_)
    refine s_getR (pc := 173) (k := 0) c2 ft_X6_15 rfl (by decide +kernel) ?_
    refine s_iload_n (pc := 176) (k0 := 1) (i := 1) rfl 1 rfl (by decide +kernel) ?_
    refine s_new (pc := 177) nt_X6_13 dv_4 (by decide +kernel) ?_
    refine s_nmN (fun q4 g3 c6 e5 => ?_)
    refine s_dup_a (pc := 180) (by decide +kernel) ?_
    refine s_cIN (pc := 181) [] (tX4_init q4 g3) (k2r c6 (by decide)) rfl cw_X6_19 rfl (mwi_X4_init) rfl ⟨⟨Nat.le_of_ble_eq_true rfl, Nat.le_of_ble_eq_true rfl⟩, Nat.le_of_ble_eq_true rfl⟩ rfl (by decide +kernel) (fun _ g7 e8 => ?_)
    have c9 := kp e8 c6 (by decide)
    refine S_gd (fun c10 => ?_)
    refine S_gd (fun c11 => ?_)
    refine s_aast (pc := 184) c9 c10 c11 (by decide +kernel) ?_
    refine s_nmH (o := g7) rfl (fun g12 e13 => ?_)
    refine s_iinc (pc := 185) (L' := [(1, .int (a1 + (1 : Int32))), (0, .ref a0)]) (i := 1) (n := 1) 1 rfl rfl (by decide) rfl (by decide +kernel) ?_
    refine s_nmI0 (e := a1 + (1 : Int32)) (L := fun v14 => [(1, .int v14), (0, .ref a0)]) (fun v14 => ?_)
    refine s_goto (pc := 188) (off := -22) 166 (by decide +kernel) (by decide) ?_
    refine S_sub [1, 0] rfl ?_
    exact hr166 a0 v14 g12
theorem pX6_init_l166 {h0 : xH}   : ∀ (k : Nat)  (a0 : Nat) (a1 : Int32) (h : xH), S emV kX6_init h0 166 [(0, .ref a0), (1, .int a1)] [] h (fX6_init_l166  k  a0 a1 h) := by
  intro k
  induction k with
  | zero => intros; exact S_none
  | succ k ih => intro  a0 a1 h; exact pX6_init_b166 ih  a0 a1 h
theorem pX6_init_e    (a0 : Nat) (h : xH) : S emV kX6_init h 0 [(0, .ref a0)] [] h (fX6_init  a0 h) := by
  unfold fX6_init
  refine s_aload_n (pc := 0) (k0 := 0) (i := 0) rfl 0 rfl (by decide +kernel) ?_
  refine S_gd (fun c1 => ?_)
  refine s_objInit (pc := 1) (index := 5) (k2r c1 (by decide)) ml_X6_5 oi_1 oi_2 (by decide) (by decide +kernel) ?_
  refine s_aload_n (pc := 4) (k0 := 0) (i := 0) rfl 0 rfl (by decide +kernel) ?_
  refine s_bipush (pc := 5) (n := 7) (v := (7 : Int32)) (by decide) (by decide +kernel) ?_
  refine s_newS (pc := 7) (index := 13) (gd_of 23 (by decide +kernel) rfl) (by decide) (by decide +kernel) ?_
  refine s_nmN (fun q3 g2 c5 e4 => ?_)
  have c6 := kp e4 c1 (by decide)
  refine s_putR (pc := 10) (k := 0) c6 ft_X6_15 fwF_6_0 rfl rfl (by decide +kernel) ?_
  refine s_nmH (o := g2) rfl (fun g7 e8 => ?_)
  refine s_aload_n (pc := 13) (k0 := 0) (i := 0) rfl 0 rfl (by decide +kernel) ?_
  refine s_new (pc := 14) nt_X6_13 dv_4 (by decide +kernel) ?_
  refine s_nmN (fun q10 g9 c12 e11 => ?_)
  refine s_dup_a (pc := 17) (by decide +kernel) ?_
  refine s_cIN (pc := 18) [] (tX4_init q10 g9) (k2r c12 (by decide)) rfl cw_X6_19 rfl (mwi_X4_init) rfl ⟨⟨Nat.le_of_ble_eq_true rfl, Nat.le_of_ble_eq_true rfl⟩, Nat.le_of_ble_eq_true rfl⟩ rfl (by decide +kernel) (fun _ g13 e14 => ?_)
  have c15 := kp (Le.tr e8 (Le.tr e11 e14)) c6 (by decide)
  refine s_putR (pc := 21) (k := 1) c15 ft_X6_20 (fw_6_1 _ _) rfl rfl (by decide +kernel) ?_
  refine s_nmH (o := g13) rfl (fun g16 e17 => ?_)
  refine s_aload_n (pc := 24) (k0 := 0) (i := 0) rfl 0 rfl (by decide +kernel) ?_
  refine s_new (pc := 25) nt_X6_24 dv_0 (by decide +kernel) ?_
  refine s_nmN (fun q19 g18 c21 e20 => ?_)
  refine s_dup_a (pc := 28) (by decide +kernel) ?_
  refine s_cI (pc := 29) [] (tX0_init q19 g18) (k2r c21 (by decide)) rfl cw_X6_26 rfl ⟨⟨Nat.le_of_ble_eq_true rfl, Nat.le_of_ble_eq_true rfl⟩, Nat.le_of_ble_eq_true rfl⟩ rfl (by decide +kernel) (fun _ g22 e23 => ?_)
  have c24 := kp (Le.tr e17 (Le.tr e20 e23)) c15 (by decide)
  refine s_putR (pc := 32) (k := 2) c24 ft_X6_27 fwF_6_2 rfl rfl (by decide +kernel) ?_
  refine s_nmH (o := g22) rfl (fun g25 e26 => ?_)
  refine s_aload_n (pc := 35) (k0 := 0) (i := 0) rfl 0 rfl (by decide +kernel) ?_
  refine s_bipush (pc := 36) (n := 14) (v := (14 : Int32)) (by decide) (by decide +kernel) ?_
  refine s_newS (pc := 38) (index := 13) (gd_of 23 (by decide +kernel) rfl) (by decide) (by decide +kernel) ?_
  refine s_nmN (fun q28 g27 c30 e29 => ?_)
  have c31 := kp (Le.tr e26 e29) c24 (by decide)
  refine s_putR (pc := 41) (k := 3) c31 ft_X6_31 fwF_6_3 rfl rfl (by decide +kernel) ?_
  refine s_nmH (o := g27) rfl (fun g32 e33 => ?_)
  refine s_aload_n (pc := 44) (k0 := 0) (i := 0) rfl 0 rfl (by decide +kernel) ?_
  refine s_iconst (pc := 45) (n := 2) (v := (2 : Int32)) (by decide) (by decide +kernel) ?_
  refine s_newZ (pc := 46) (by decide) (by decide +kernel) ?_
  refine s_nmN (fun q35 g34 c37 e36 => ?_)
  have c38 := kp (Le.tr e33 e36) c31 (by decide)
  refine s_putR (pc := 48) (k := 4) c38 ft_X6_34 fwF_6_4 rfl rfl (by decide +kernel) ?_
  refine s_nmH (o := g34) rfl (fun g39 e40 => ?_)
  refine s_aload_n (pc := 51) (k0 := 0) (i := 0) rfl 0 rfl (by decide +kernel) ?_
  refine s_new (pc := 52) nt_X6_38 dv_5 (by decide +kernel) ?_
  refine s_nmN (fun q42 g41 c44 e43 => ?_)
  refine s_dup_a (pc := 55) (by decide +kernel) ?_
  refine s_cIN (pc := 56) [] (tX5_init q42 g41) (k2r c44 (by decide)) rfl cw_X6_40 rfl (mwi_X5_init) rfl ⟨⟨Nat.le_of_ble_eq_true rfl, Nat.le_of_ble_eq_true rfl⟩, Nat.le_of_ble_eq_true rfl⟩ rfl (by decide +kernel) (fun _ g45 e46 => ?_)
  have c47 := kp (Le.tr e40 (Le.tr e43 e46)) c38 (by decide)
  refine s_putR (pc := 59) (k := 5) c47 ft_X6_41 fwF_6_5 rfl rfl (by decide +kernel) ?_
  refine s_nmH (o := g45) rfl (fun g48 e49 => ?_)
  refine s_aload_n (pc := 62) (k0 := 0) (i := 0) rfl 0 rfl (by decide +kernel) ?_
  refine s_iconst (pc := 63) (n := 0) (v := (0 : Int32)) (by decide) (by decide +kernel) ?_
  have c50 := kp e49 c47 (by decide)
  refine s_putI (pc := 64) (k := 6) c50 ft_X6_45 (fw_6_6 _ _) rfl rfl (by decide +kernel) ?_
  refine s_nmH (o := g48) rfl (fun g51 e52 => ?_)
  refine s_aload_n (pc := 67) (k0 := 0) (i := 0) rfl 0 rfl (by decide +kernel) ?_
  refine s_bipush (pc := 68) (n := 7) (v := (7 : Int32)) (by decide) (by decide +kernel) ?_
  refine s_newI (pc := 70) (by decide) (by decide +kernel) ?_
  refine s_nmN (fun q54 g53 c56 e55 => ?_)
  have c57 := kp (Le.tr e52 e55) c50 (by decide)
  refine s_putR (pc := 72) (k := 7) c57 ft_X6_49 fwF_6_7 rfl rfl (by decide +kernel) ?_
  refine s_nmH (o := g53) rfl (fun g58 e59 => ?_)
  refine s_aload_n (pc := 75) (k0 := 0) (i := 0) rfl 0 rfl (by decide +kernel) ?_
  refine s_new (pc := 76) nt_X6_53 dv_1 (by decide +kernel) ?_
  refine s_nmN (fun q61 g60 c63 e62 => ?_)
  refine s_dup_a (pc := 79) (by decide +kernel) ?_
  refine s_sipush (pc := 80) (n := 288) (v := (288 : Int32)) (by decide) (by decide +kernel) ?_
  refine s_cI (pc := 83) [.int (288 : Int32)] (tX1_init q61 (288 : Int32) g60) (k2r c63 (by decide)) rfl cw_X6_55 rfl ⟨⟨Nat.le_of_ble_eq_true rfl, Nat.le_of_ble_eq_true rfl⟩, Nat.le_of_ble_eq_true rfl⟩ rfl (by decide +kernel) (fun _ g64 e65 => ?_)
  have c66 := kp (Le.tr e59 (Le.tr e62 e65)) c57 (by decide)
  refine s_putR (pc := 86) (k := 8) c66 ft_X6_58 fwF_6_8 rfl rfl (by decide +kernel) ?_
  refine s_nmH (o := g64) rfl (fun g67 e68 => ?_)
  refine s_aload_n (pc := 89) (k0 := 0) (i := 0) rfl 0 rfl (by decide +kernel) ?_
  refine s_new (pc := 90) nt_X6_53 dv_1 (by decide +kernel) ?_
  refine s_nmN (fun q70 g69 c72 e71 => ?_)
  refine s_dup_a (pc := 93) (by decide +kernel) ?_
  refine s_bipush (pc := 94) (n := 12) (v := (12 : Int32)) (by decide) (by decide +kernel) ?_
  refine s_cI (pc := 96) [.int (12 : Int32)] (tX1_init q70 (12 : Int32) g69) (k2r c72 (by decide)) rfl cw_X6_55 rfl ⟨⟨Nat.le_of_ble_eq_true rfl, Nat.le_of_ble_eq_true rfl⟩, Nat.le_of_ble_eq_true rfl⟩ rfl (by decide +kernel) (fun _ g73 e74 => ?_)
  have c75 := kp (Le.tr e68 (Le.tr e71 e74)) c66 (by decide)
  refine s_putR (pc := 99) (k := 9) c75 ft_X6_62 fwF_6_9 rfl rfl (by decide +kernel) ?_
  refine s_nmH (o := g73) rfl (fun g76 e77 => ?_)
  refine s_aload_n (pc := 102) (k0 := 0) (i := 0) rfl 0 rfl (by decide +kernel) ?_
  refine s_new (pc := 103) nt_X6_53 dv_1 (by decide +kernel) ?_
  refine s_nmN (fun q79 g78 c81 e80 => ?_)
  refine s_dup_a (pc := 106) (by decide +kernel) ?_
  refine s_bipush (pc := 107) (n := 12) (v := (12 : Int32)) (by decide) (by decide +kernel) ?_
  refine s_cI (pc := 109) [.int (12 : Int32)] (tX1_init q79 (12 : Int32) g78) (k2r c81 (by decide)) rfl cw_X6_55 rfl ⟨⟨Nat.le_of_ble_eq_true rfl, Nat.le_of_ble_eq_true rfl⟩, Nat.le_of_ble_eq_true rfl⟩ rfl (by decide +kernel) (fun _ g82 e83 => ?_)
  have c84 := kp (Le.tr e77 (Le.tr e80 e83)) c75 (by decide)
  refine s_putR (pc := 112) (k := 10) c84 ft_X6_65 fwF_6_10 rfl rfl (by decide +kernel) ?_
  refine s_nmH (o := g82) rfl (fun g85 e86 => ?_)
  refine s_aload_n (pc := 115) (k0 := 0) (i := 0) rfl 0 rfl (by decide +kernel) ?_
  refine s_new (pc := 116) nt_X6_68 dv_2 (by decide +kernel) ?_
  refine s_nmN (fun q88 g87 c90 e89 => ?_)
  refine s_dup_a (pc := 119) (by decide +kernel) ?_
  refine s_cIN (pc := 120) [] (tX2_init q88 g87) (k2r c90 (by decide)) rfl cw_X6_70 rfl (mwi_X2_init) rfl ⟨⟨Nat.le_of_ble_eq_true rfl, Nat.le_of_ble_eq_true rfl⟩, Nat.le_of_ble_eq_true rfl⟩ rfl (by decide +kernel) (fun _ g91 e92 => ?_)
  have c93 := kp (Le.tr e86 (Le.tr e89 e92)) c84 (by decide)
  refine s_putR (pc := 123) (k := 11) c93 ft_X6_71 fwF_6_11 rfl rfl (by decide +kernel) ?_
  refine s_nmH (o := g91) rfl (fun g94 e95 => ?_)
  refine s_aload_n (pc := 126) (k0 := 0) (i := 0) rfl 0 rfl (by decide +kernel) ?_
  refine s_new (pc := 127) nt_X6_68 dv_2 (by decide +kernel) ?_
  refine s_nmN (fun q97 g96 c99 e98 => ?_)
  refine s_dup_a (pc := 130) (by decide +kernel) ?_
  refine s_cIN (pc := 131) [] (tX2_init q97 g96) (k2r c99 (by decide)) rfl cw_X6_70 rfl (mwi_X2_init) rfl ⟨⟨Nat.le_of_ble_eq_true rfl, Nat.le_of_ble_eq_true rfl⟩, Nat.le_of_ble_eq_true rfl⟩ rfl (by decide +kernel) (fun _ g100 e101 => ?_)
  have c102 := kp (Le.tr e95 (Le.tr e98 e101)) c93 (by decide)
  refine s_putR (pc := 134) (k := 12) c102 ft_X6_75 fwF_6_12 rfl rfl (by decide +kernel) ?_
  refine s_nmH (o := g100) rfl (fun g103 e104 => ?_)
  refine s_aload_n (pc := 137) (k0 := 0) (i := 0) rfl 0 rfl (by decide +kernel) ?_
  refine s_new (pc := 138) nt_X6_68 dv_2 (by decide +kernel) ?_
  refine s_nmN (fun q106 g105 c108 e107 => ?_)
  refine s_dup_a (pc := 141) (by decide +kernel) ?_
  refine s_cIN (pc := 142) [] (tX2_init q106 g105) (k2r c108 (by decide)) rfl cw_X6_70 rfl (mwi_X2_init) rfl ⟨⟨Nat.le_of_ble_eq_true rfl, Nat.le_of_ble_eq_true rfl⟩, Nat.le_of_ble_eq_true rfl⟩ rfl (by decide +kernel) (fun _ g109 e110 => ?_)
  have c111 := kp (Le.tr e104 (Le.tr e107 e110)) c102 (by decide)
  refine s_putR (pc := 145) (k := 13) c111 ft_X6_78 fwF_6_13 rfl rfl (by decide +kernel) ?_
  refine s_nmH (o := g109) rfl (fun g112 e113 => ?_)
  refine s_aload_n (pc := 148) (k0 := 0) (i := 0) rfl 0 rfl (by decide +kernel) ?_
  refine s_iconst (pc := 149) (n := 0) (v := (0 : Int32)) (by decide) (by decide +kernel) ?_
  have c114 := kp e113 c111 (by decide)
  refine s_putI (pc := 150) (k := 14) c114 ft_X6_81 (fw_6_14 _ _) rfl rfl (by decide +kernel) ?_
  refine s_nmH (o := g112) rfl (fun g115 e116 => ?_)
  refine s_aload_n (pc := 153) (k0 := 0) (i := 0) rfl 0 rfl (by decide +kernel) ?_
  refine s_new (pc := 154) nt_X6_84 dv_3 (by decide +kernel) ?_
  refine s_nmN (fun q118 g117 c120 e119 => ?_)
  refine s_dup_a (pc := 157) (by decide +kernel) ?_
  refine s_cIN (pc := 158) [] (tX3_init q118 g117) (k2r c120 (by decide)) rfl cw_X6_86 rfl (mwi_X3_init) rfl ⟨⟨Nat.le_of_ble_eq_true rfl, Nat.le_of_ble_eq_true rfl⟩, Nat.le_of_ble_eq_true rfl⟩ rfl (by decide +kernel) (fun _ g121 e122 => ?_)
  have c123 := kp (Le.tr e116 (Le.tr e119 e122)) c114 (by decide)
  refine s_putR (pc := 161) (k := 15) c123 ft_X6_87 fwF_6_15 rfl rfl (by decide +kernel) ?_
  refine s_nmH (o := g121) rfl (fun g124 e125 => ?_)
  refine s_iconst (pc := 164) (n := 0) (v := (0 : Int32)) (by decide) (by decide +kernel) ?_
  refine s_nmI (fun v126 => ?_)
  refine s_istore_n (pc := 165) (L' := [(1, .int v126), (0, .ref a0)]) (k0 := 1) (i := 1) rfl (by decide) rfl (by decide +kernel) ?_
  refine S_sub [1, 0] rfl ?_
  exact pX6_init_l166 FU a0 v126 g124
theorem tX6_init (a0 : Nat) (h : xH) : Ct yX6_init kX6_init emV [.ref a0] h (fX6_init a0 h) := Ct_of (by decide +kernel) rfl rfl rfl (Nat.le_of_ble_eq_true rfl) rfl (pX6_init_e a0 h)
def fX6_feed   (a0 : Nat) (a1 : Int32) (a2 : Int32) (a3 : Int32) (a4 : Int32) (a5 : Int32) (h : xH) : Option (Int32 × xH) :=
  if kc h a0 = 6 then
  if kc h (hR h a0 5) = 5 then
  if ((hI h (hR h a0 5) 0) + (20 : Int32)) ≤ (400 : Int32) then (
  bd (fX5_appendWord (hR h a0 5) a1 h) (fun _ g3 =>
  if kc g3 (hR g3 a0 5) = 5 then
  bd (fX5_appendWord (hR g3 a0 5) a2 g3) (fun _ g7 =>
  if kc g7 (hR g7 a0 5) = 5 then
  bd (fX5_appendWord (hR g7 a0 5) a3 g7) (fun _ g11 =>
  if kc g11 (hR g11 a0 5) = 5 then
  bd (fX5_appendWord (hR g11 a0 5) a4 g11) (fun _ g15 =>
  if kc g15 (hR g15 a0 5) = 5 then
  bd (fX5_appendWord (hR g15 a0 5) a5 g15) (fun _ g19 =>
  if kc g19 (hR g19 a0 5) = 5 then
  some ((hI g19 (hR g19 a0 5) 0), g19)
  else none)
  else none)
  else none)
  else none)
  else none))
  else (
  some ((-1 : Int32), h))
  else none
  else none
theorem pX6_feed_e    (a0 : Nat) (a1 : Int32) (a2 : Int32) (a3 : Int32) (a4 : Int32) (a5 : Int32) (h : xH) : S emI kX6_feed h 0 [(0, .ref a0), (1, .int a1), (2, .int a2), (3, .int a3), (4, .int a4), (5, .int a5)] [] h (fX6_feed  a0 a1 a2 a3 a4 a5 h) := by
  unfold fX6_feed
  refine s_aload_n (pc := 0) (k0 := 0) (i := 0) rfl 0 rfl (by decide +kernel) ?_
  refine S_gd (fun c1 => ?_)
  refine s_getR (pc := 1) (k := 5) c1 ft_X6_41 rfl (by decide +kernel) ?_
  refine S_gd (fun c2 => ?_)
  refine s_getI (pc := 4) (k := 0) c2 ft_X6_91 rfl (by decide +kernel) ?_
  refine s_bipush (pc := 7) (n := 20) (v := (20 : Int32)) (by decide) (by decide +kernel) ?_
  refine s_iadd (pc := 9) (by decide +kernel) ?_
  refine s_sipush (pc := 10) (n := 400) (v := (400 : Int32)) (by decide) (by decide +kernel) ?_
  refine s_icmp_le (pc := 13) (off := 5) 18 (by decide +kernel) (by decide) (fun _ => ?_) (fun _ => ?_)
  · refine s_aload_n (pc := 18) (k0 := 0) (i := 0) rfl 0 rfl (by decide +kernel) ?_
    refine s_getR (pc := 19) (k := 5) c1 ft_X6_41 rfl (by decide +kernel) ?_
    refine s_iload_n (pc := 22) (k0 := 1) (i := 1) rfl 1 rfl (by decide +kernel) ?_
    refine s_cVv (pc := 23) [.int a1] (tX5_appendWord (hR h a0 5) a1 h) c2 cw_X6_94 rfl ⟨⟨Nat.le_of_ble_eq_true rfl, Nat.le_of_ble_eq_true rfl⟩, Nat.le_of_ble_eq_true rfl⟩ rfl (by decide +kernel) (fun _ g3 e4 => ?_)
    refine s_aload_n (pc := 26) (k0 := 0) (i := 0) rfl 0 rfl (by decide +kernel) ?_
    have c5 := kp e4 c1 (by decide)
    refine s_getR (pc := 27) (k := 5) c5 ft_X6_41 rfl (by decide +kernel) ?_
    refine s_iload_n (pc := 30) (k0 := 2) (i := 2) rfl 2 rfl (by decide +kernel) ?_
    refine S_gd (fun c6 => ?_)
    refine s_cVv (pc := 31) [.int a2] (tX5_appendWord (hR g3 a0 5) a2 g3) c6 cw_X6_94 rfl ⟨⟨Nat.le_of_ble_eq_true rfl, Nat.le_of_ble_eq_true rfl⟩, Nat.le_of_ble_eq_true rfl⟩ rfl (by decide +kernel) (fun _ g7 e8 => ?_)
    refine s_aload_n (pc := 34) (k0 := 0) (i := 0) rfl 0 rfl (by decide +kernel) ?_
    have c9 := kp e8 c5 (by decide)
    refine s_getR (pc := 35) (k := 5) c9 ft_X6_41 rfl (by decide +kernel) ?_
    refine s_iload_n (pc := 38) (k0 := 3) (i := 3) rfl 3 rfl (by decide +kernel) ?_
    refine S_gd (fun c10 => ?_)
    refine s_cVv (pc := 39) [.int a3] (tX5_appendWord (hR g7 a0 5) a3 g7) c10 cw_X6_94 rfl ⟨⟨Nat.le_of_ble_eq_true rfl, Nat.le_of_ble_eq_true rfl⟩, Nat.le_of_ble_eq_true rfl⟩ rfl (by decide +kernel) (fun _ g11 e12 => ?_)
    refine s_aload_n (pc := 42) (k0 := 0) (i := 0) rfl 0 rfl (by decide +kernel) ?_
    have c13 := kp e12 c9 (by decide)
    refine s_getR (pc := 43) (k := 5) c13 ft_X6_41 rfl (by decide +kernel) ?_
    refine s_iload (pc := 46) (i := 4) 4 rfl (by decide +kernel) ?_
    refine S_gd (fun c14 => ?_)
    refine s_cVv (pc := 48) [.int a4] (tX5_appendWord (hR g11 a0 5) a4 g11) c14 cw_X6_94 rfl ⟨⟨Nat.le_of_ble_eq_true rfl, Nat.le_of_ble_eq_true rfl⟩, Nat.le_of_ble_eq_true rfl⟩ rfl (by decide +kernel) (fun _ g15 e16 => ?_)
    refine s_aload_n (pc := 51) (k0 := 0) (i := 0) rfl 0 rfl (by decide +kernel) ?_
    have c17 := kp e16 c13 (by decide)
    refine s_getR (pc := 52) (k := 5) c17 ft_X6_41 rfl (by decide +kernel) ?_
    refine s_iload (pc := 55) (i := 5) 5 rfl (by decide +kernel) ?_
    refine S_gd (fun c18 => ?_)
    refine s_cVv (pc := 57) [.int a5] (tX5_appendWord (hR g15 a0 5) a5 g15) c18 cw_X6_94 rfl ⟨⟨Nat.le_of_ble_eq_true rfl, Nat.le_of_ble_eq_true rfl⟩, Nat.le_of_ble_eq_true rfl⟩ rfl (by decide +kernel) (fun _ g19 e20 => ?_)
    refine s_aload_n (pc := 60) (k0 := 0) (i := 0) rfl 0 rfl (by decide +kernel) ?_
    have c21 := kp e20 c17 (by decide)
    refine s_getR (pc := 61) (k := 5) c21 ft_X6_41 rfl (by decide +kernel) ?_
    refine S_gd (fun c22 => ?_)
    refine s_getI (pc := 64) (k := 0) c22 ft_X6_91 rfl (by decide +kernel) ?_
    exact s_iret (pc := 67) rfl (by decide +kernel)
  · refine s_iconst (pc := 16) (n := -1) (v := (-1 : Int32)) (by decide) (by decide +kernel) ?_
    exact s_iret (pc := 17) rfl (by decide +kernel)
theorem tX6_feed (a0 : Nat) (a1 : Int32) (a2 : Int32) (a3 : Int32) (a4 : Int32) (a5 : Int32) (h : xH) : Ct yX6_feed kX6_feed emI [.ref a0, .int a1, .int a2, .int a3, .int a4, .int a5] h (fX6_feed a0 a1 a2 a3 a4 a5 h) := Ct_of (by decide +kernel) rfl rfl rfl (Nat.le_of_ble_eq_true rfl) rfl (pX6_feed_e a0 a1 a2 a3 a4 a5 h)
def fX6_end   (a0 : Nat) (a1 : Int32) (h : xH) : Option (Int32 × xH) :=
  if a1 < 0 then (
  some ((-1 : Int32), h))
  else (
  if kc h a0 = 6 then
  if kc h (hR h a0 5) = 5 then
  if a1 ≤ (hI h (hR h a0 5) 0) then (
  lt (sI h (hR h a0 5) 0 a1) (fun g3 =>
  some (a1, g3)))
  else (
  some ((-1 : Int32), h))
  else none
  else none)
theorem pX6_end_e    (a0 : Nat) (a1 : Int32) (h : xH) : S emI kX6_end h 0 [(0, .ref a0), (1, .int a1)] [] h (fX6_end  a0 a1 h) := by
  unfold fX6_end
  refine s_iload_n (pc := 0) (k0 := 1) (i := 1) rfl 1 rfl (by decide +kernel) ?_
  refine s_if_lt (pc := 1) (off := 14) 15 (by decide +kernel) (by decide) (fun _ => ?_) (fun _ => ?_)
  · refine s_iconst (pc := 15) (n := -1) (v := (-1 : Int32)) (by decide) (by decide +kernel) ?_
    exact s_iret (pc := 16) rfl (by decide +kernel)
  · refine s_iload_n (pc := 4) (k0 := 1) (i := 1) rfl 1 rfl (by decide +kernel) ?_
    refine s_aload_n (pc := 5) (k0 := 0) (i := 0) rfl 0 rfl (by decide +kernel) ?_
    refine S_gd (fun c1 => ?_)
    refine s_getR (pc := 6) (k := 5) c1 ft_X6_41 rfl (by decide +kernel) ?_
    refine S_gd (fun c2 => ?_)
    refine s_getI (pc := 9) (k := 0) c2 ft_X6_91 rfl (by decide +kernel) ?_
    refine s_icmp_le (pc := 12) (off := 5) 17 (by decide +kernel) (by decide) (fun _ => ?_) (fun _ => ?_)
    · refine s_aload_n (pc := 17) (k0 := 0) (i := 0) rfl 0 rfl (by decide +kernel) ?_
      refine s_getR (pc := 18) (k := 5) c1 ft_X6_41 rfl (by decide +kernel) ?_
      refine s_iload_n (pc := 21) (k0 := 1) (i := 1) rfl 1 rfl (by decide +kernel) ?_
      refine s_putI (pc := 22) (k := 0) c2 ft_X6_91 (fw_5_0 _ _) rfl rfl (by decide +kernel) ?_
      refine s_nmH (o := h) rfl (fun g3 e4 => ?_)
      refine s_iload_n (pc := 25) (k0 := 1) (i := 1) rfl 1 rfl (by decide +kernel) ?_
      exact s_iret (pc := 26) rfl (by decide +kernel)
    · refine s_iconst (pc := 15) (n := -1) (v := (-1 : Int32)) (by decide) (by decide +kernel) ?_
      exact s_iret (pc := 16) rfl (by decide +kernel)
theorem tX6_end (a0 : Nat) (a1 : Int32) (h : xH) : Ct yX6_end kX6_end emI [.ref a0, .int a1] h (fX6_end a0 a1 h) := Ct_of (by decide +kernel) rfl rfl rfl (Nat.le_of_ble_eq_true rfl) rfl (pX6_end_e a0 a1 h)
def fX6_isStore   (a0 : Int32) (h : xH) : Option (Int32 × xH) :=
  if a0 < 0 then (
  some ((0 : Int32), h))
  else (
  if (6 : Int32) ≤ a0 then (
  some ((0 : Int32), h))
  else (
  some ((1 : Int32), h)))
theorem pX6_isStore_e    (a0 : Int32) (h : xH) : S emI kX6_isStore h 0 [(0, .int a0)] [] h (fX6_isStore  a0 h) := by
  unfold fX6_isStore
  refine s_iload_n (pc := 0) (k0 := 0) (i := 0) rfl 0 rfl (by decide +kernel) ?_
  refine s_if_lt (pc := 1) (off := 13) 14 (by decide +kernel) (by decide) (fun _ => ?_) (fun _ => ?_)
  · refine s_iconst (pc := 14) (n := 0) (v := (0 : Int32)) (by decide) (by decide +kernel) ?_
    exact s_zret (pc := 15) (by decide) rfl (by decide +kernel)
  · refine s_iload_n (pc := 4) (k0 := 0) (i := 0) rfl 0 rfl (by decide +kernel) ?_
    refine s_bipush (pc := 5) (n := 6) (v := (6 : Int32)) (by decide) (by decide +kernel) ?_
    refine s_icmp_ge (pc := 7) (off := 7) 14 (by decide +kernel) (by decide) (fun _ => ?_) (fun _ => ?_)
    · refine s_iconst (pc := 14) (n := 0) (v := (0 : Int32)) (by decide) (by decide +kernel) ?_
      exact s_zret (pc := 15) (by decide) rfl (by decide +kernel)
    · refine s_iconst (pc := 10) (n := 1) (v := (1 : Int32)) (by decide) (by decide +kernel) ?_
      refine s_goto (pc := 11) (off := 4) 15 (by decide +kernel) (by decide) ?_
      exact s_zret (pc := 15) (by decide) rfl (by decide +kernel)
theorem tX6_isStore (a0 : Int32) (h : xH) : Ct yX6_isStore kX6_isStore emI [.int a0] h (fX6_isStore a0 h) := Ct_of (by decide +kernel) rfl rfl rfl (Nat.le_of_ble_eq_true rfl) rfl (pX6_isStore_e a0 h)
def fX6_refuse   (a0 : Nat) (a1 : Int32) (h : xH) : Option (Int32 × xH) :=
  if kc h a0 = 6 then
  lt (sI h a0 6 a1) (fun g2 =>
  if kc g2 (hR g2 a0 7) = 8 then
  if ix (-a1) (kl g2 (hR g2 a0 7)) then
  lt (sI g2 (hR g2 a0 7) (-a1).toNatClampNeg ((hI g2 (hR g2 a0 7) (-a1).toNatClampNeg) + (1 : Int32))) (fun g7 =>
  some (a1, g7))
  else none
  else none)
  else none
theorem pX6_refuse_e    (a0 : Nat) (a1 : Int32) (h : xH) : S emI kX6_refuse h 0 [(0, .ref a0), (1, .int a1)] [] h (fX6_refuse  a0 a1 h) := by
  unfold fX6_refuse
  refine s_aload_n (pc := 0) (k0 := 0) (i := 0) rfl 0 rfl (by decide +kernel) ?_
  refine s_iload_n (pc := 1) (k0 := 1) (i := 1) rfl 1 rfl (by decide +kernel) ?_
  refine S_gd (fun c1 => ?_)
  refine s_putI (pc := 2) (k := 6) c1 ft_X6_45 (fw_6_6 _ _) rfl rfl (by decide +kernel) ?_
  refine s_nmH (o := h) rfl (fun g2 e3 => ?_)
  refine s_aload_n (pc := 5) (k0 := 0) (i := 0) rfl 0 rfl (by decide +kernel) ?_
  have c4 := kp e3 c1 (by decide)
  refine s_getR (pc := 6) (k := 7) c4 ft_X6_49 rfl (by decide +kernel) ?_
  refine s_iload_n (pc := 9) (k0 := 1) (i := 1) rfl 1 rfl (by decide +kernel) ?_
  refine s_ineg (pc := 10) (by decide +kernel) ?_
  refine s_dup2_ia (pc := 11) (by decide +kernel) ?_
  refine S_gd (fun c5 => ?_)
  refine S_gd (fun c6 => ?_)
  refine s_iald (pc := 12) c5 c6 (by decide +kernel) ?_
  refine s_iconst (pc := 13) (n := 1) (v := (1 : Int32)) (by decide) (by decide +kernel) ?_
  refine s_iadd (pc := 14) (by decide +kernel) ?_
  refine s_iast (pc := 15) c5 c6 (by decide +kernel) ?_
  refine s_nmH (o := g2) rfl (fun g7 e8 => ?_)
  refine s_iload_n (pc := 16) (k0 := 1) (i := 1) rfl 1 rfl (by decide +kernel) ?_
  exact s_iret (pc := 17) rfl (by decide +kernel)
theorem tX6_refuse (a0 : Nat) (a1 : Int32) (h : xH) : Ct yX6_refuse kX6_refuse emI [.ref a0, .int a1] h (fX6_refuse a0 a1 h) := Ct_of (by decide +kernel) rfl rfl rfl (Nat.le_of_ble_eq_true rfl) rfl (pX6_refuse_e a0 a1 h)
def fX6_settle   (a0 : Nat) (a1 : Int32) (a2 : Int32) (h : xH) : Option (Int32 × xH) :=
  if kc h a0 = 6 then
  if kc h (hR h a0 0) = 12 then
  if ix a2 (kl h (hR h a0 0)) then
  lt (hR h (hR h a0 0) a2.toNatClampNeg) (fun v4 =>
  if kc h (hR h a0 1) = 4 then
  lt (sR h (hR h a0 0) a2.toNatClampNeg (hR h a0 1)) (fun g6 =>
  if kc g6 (hR g6 a0 2) = 0 then
  bd (fX0_keep (hR g6 a0 2) a1 a2 v4 g6) (fun w12 g10 =>
  lt (sR g10 a0 1 w12) (fun g14 =>
  lt (sI g14 a0 6 (0 : Int32)) (fun g17 =>
  if kc g17 (hR g17 a0 0) = 12 then
  if ix a2 (kl g17 (hR g17 a0 0)) then
  if kc g17 (hR g17 (hR g17 a0 0) a2.toNatClampNeg) = 4 then
  some ((hI g17 (hR g17 (hR g17 a0 0) a2.toNatClampNeg) 0), g17)
  else none
  else none
  else none)))
  else none)
  else none)
  else none
  else none
  else none
theorem pX6_settle_e    (a0 : Nat) (a1 : Int32) (a2 : Int32) (h : xH) : S emI kX6_settle h 0 [(0, .ref a0), (1, .int a1), (2, .int a2)] [] h (fX6_settle  a0 a1 a2 h) := by
  unfold fX6_settle
  refine s_aload_n (pc := 0) (k0 := 0) (i := 0) rfl 0 rfl (by decide +kernel) ?_
  refine S_gd (fun c1 => ?_)
  refine s_getR (pc := 1) (k := 0) c1 ft_X6_15 rfl (by decide +kernel) ?_
  refine s_iload_n (pc := 4) (k0 := 2) (i := 2) rfl 2 rfl (by decide +kernel) ?_
  refine S_gd (fun c2 => ?_)
  refine S_gd (fun c3 => ?_)
  refine s_aald (pc := 5) c2 c3 (by decide +kernel) ?_
  refine s_nmA (fun v4 => ?_)
  refine s_astore_n (pc := 6) (L' := [(3, .ref v4), (0, .ref a0), (1, .int a1), (2, .int a2)]) (k0 := 3) (i := 3) rfl (by decide) rfl (by decide +kernel) ?_
  refine s_aload_n (pc := 7) (k0 := 0) (i := 0) rfl 1 rfl (by decide +kernel) ?_
  refine s_getR (pc := 8) (k := 0) c1 ft_X6_15 rfl (by decide +kernel) ?_
  refine s_iload_n (pc := 11) (k0 := 2) (i := 2) rfl 3 rfl (by decide +kernel) ?_
  refine s_aload_n (pc := 12) (k0 := 0) (i := 0) rfl 1 rfl (by decide +kernel) ?_
  refine s_getR (pc := 13) (k := 1) c1 ft_X6_20 rfl (by decide +kernel) ?_
  refine S_gd (fun c5 => ?_)
  refine s_aast (pc := 16) c5 c2 c3 (by decide +kernel) ?_
  refine s_nmH (o := h) rfl (fun g6 e7 => ?_)
  refine s_aload_n (pc := 17) (k0 := 0) (i := 0) rfl 1 rfl (by decide +kernel) ?_
  refine s_aload_n (pc := 18) (k0 := 0) (i := 0) rfl 1 rfl (by decide +kernel) ?_
  have c8 := kp e7 c1 (by decide)
  refine s_getR (pc := 19) (k := 2) c8 ft_X6_27 rfl (by decide +kernel) ?_
  refine s_iload_n (pc := 22) (k0 := 1) (i := 1) rfl 2 rfl (by decide +kernel) ?_
  refine s_iload_n (pc := 23) (k0 := 2) (i := 2) rfl 3 rfl (by decide +kernel) ?_
  refine s_aload_n (pc := 24) (k0 := 3) (i := 3) rfl 0 rfl (by decide +kernel) ?_
  refine S_gd (fun c9 => ?_)
  refine s_cVr (pc := 25) [.int a1, .int a2, .ref v4] (tX0_keep (hR g6 a0 2) a1 a2 v4 g6) c9 cw_X6_187 rfl ⟨⟨Nat.le_of_ble_eq_true rfl, Nat.le_of_ble_eq_true rfl⟩, Nat.le_of_ble_eq_true rfl⟩ rfl (by decide +kernel) (fun w12 g10 e11 => ?_)
  have c13 := kp e11 c8 (by decide)
  refine s_putR (pc := 28) (k := 1) c13 ft_X6_20 (fw_6_1 _ _) rfl rfl (by decide +kernel) ?_
  refine s_nmH (o := g10) rfl (fun g14 e15 => ?_)
  refine s_aload_n (pc := 31) (k0 := 0) (i := 0) rfl 1 rfl (by decide +kernel) ?_
  refine s_iconst (pc := 32) (n := 0) (v := (0 : Int32)) (by decide) (by decide +kernel) ?_
  have c16 := kp e15 c13 (by decide)
  refine s_putI (pc := 33) (k := 6) c16 ft_X6_45 (fw_6_6 _ _) rfl rfl (by decide +kernel) ?_
  refine s_nmH (o := g14) rfl (fun g17 e18 => ?_)
  refine s_aload_n (pc := 36) (k0 := 0) (i := 0) rfl 1 rfl (by decide +kernel) ?_
  have c19 := kp e18 c16 (by decide)
  refine s_getR (pc := 37) (k := 0) c19 ft_X6_15 rfl (by decide +kernel) ?_
  refine s_iload_n (pc := 40) (k0 := 2) (i := 2) rfl 3 rfl (by decide +kernel) ?_
  refine S_gd (fun c20 => ?_)
  refine S_gd (fun c21 => ?_)
  refine s_aald (pc := 41) c20 c21 (by decide +kernel) ?_
  refine S_gd (fun c22 => ?_)
  refine s_getI (pc := 42) (k := 0) c22 ft_X6_134 rfl (by decide +kernel) ?_
  exact s_iret (pc := 45) rfl (by decide +kernel)
theorem tX6_settle (a0 : Nat) (a1 : Int32) (a2 : Int32) (h : xH) : Ct yX6_settle kX6_settle emI [.ref a0, .int a1, .int a2] h (fX6_settle a0 a1 a2 h) := Ct_of (by decide +kernel) rfl rfl rfl (Nat.le_of_ble_eq_true rfl) rfl (pX6_settle_e a0 a1 a2 h)
def fX6_read   (a0 : Nat) (a1 : Int32) (h : xH) : Option (Int32 × xH) :=
  bd (fX6_isStore a1 h) (fun w3 g1 =>
  if w3 = 0 then (
  if kc g1 a0 = 6 then
  bd (fX6_refuse a0 (-2 : Int32) g1) (fun w32 g30 =>
  some (w32, g30))
  else none)
  else (
  if kc g1 a0 = 6 then
  if kc g1 (hR g1 a0 8) = 1 then
  bd (fX1_start (hR g1 a0 8) g1) (fun _ g6 =>
  if kc g6 (hR g6 a0 5) = 5 then
  bd (fX5_readText (hR g6 a0 5) (hR g6 a0 8) g6) (fun w12 g10 =>
  if kc g10 (hR g10 a0 5) = 5 then
  lt (sI g10 (hR g10 a0 5) 0 (0 : Int32)) (fun g15 =>
  if w12 = 0 then (
  bd (fX6_refuse a0 (-6 : Int32) g15) (fun w28 g26 =>
  some (w28, g26)))
  else (
  if kc g15 (hR g15 a0 8) = 1 then
  bd (fX1_lowestInto (hR g15 a0 8) (hR g15 a0 1) g15) (fun _ g19 =>
  bd (fX6_settle a0 (0 : Int32) a1 g19) (fun w24 g22 =>
  some (w24, g22)))
  else none))
  else none)
  else none)
  else none
  else none))
theorem pX6_read_e    (a0 : Nat) (a1 : Int32) (h : xH) : S emI kX6_read h 0 [(0, .ref a0), (1, .int a1)] [] h (fX6_read  a0 a1 h) := by
  unfold fX6_read
  refine s_iload_n (pc := 0) (k0 := 1) (i := 1) rfl 1 rfl (by decide +kernel) ?_
  refine s_cSi (pc := 1) [.int a1] (tX6_isStore a1 h) cw_X6_97 rfl ⟨⟨Nat.le_of_ble_eq_true rfl, Nat.le_of_ble_eq_true rfl⟩, Nat.le_of_ble_eq_true rfl⟩ rfl (by decide +kernel) (fun w3 g1 e2 => ?_)
  refine s_if_ne (pc := 4) (off := 10) 14 (by decide +kernel) (by decide) (fun _ => ?_) (fun _ => ?_)
  · refine s_aload_n (pc := 7) (k0 := 0) (i := 0) rfl 0 rfl (by decide +kernel) ?_
    refine s_bipush (pc := 8) (n := -2) (v := (-2 : Int32)) (by decide) (by decide +kernel) ?_
    refine S_gd (fun c29 => ?_)
    refine s_cVi (pc := 10) [.int (-2 : Int32)] (tX6_refuse a0 (-2 : Int32) g1) c29 cw_X6_101 rfl ⟨⟨Nat.le_of_ble_eq_true rfl, Nat.le_of_ble_eq_true rfl⟩, Nat.le_of_ble_eq_true rfl⟩ rfl (by decide +kernel) (fun w32 g30 e31 => ?_)
    exact s_iret (pc := 13) rfl (by decide +kernel)
  · refine s_aload_n (pc := 14) (k0 := 0) (i := 0) rfl 0 rfl (by decide +kernel) ?_
    refine S_gd (fun c4 => ?_)
    refine s_getR (pc := 15) (k := 8) c4 ft_X6_58 rfl (by decide +kernel) ?_
    refine S_gd (fun c5 => ?_)
    refine s_cVv (pc := 18) [] (tX1_start (hR g1 a0 8) g1) c5 cw_X6_105 rfl ⟨⟨Nat.le_of_ble_eq_true rfl, Nat.le_of_ble_eq_true rfl⟩, Nat.le_of_ble_eq_true rfl⟩ rfl (by decide +kernel) (fun _ g6 e7 => ?_)
    refine s_aload_n (pc := 21) (k0 := 0) (i := 0) rfl 0 rfl (by decide +kernel) ?_
    have c8 := kp e7 c4 (by decide)
    refine s_getR (pc := 22) (k := 5) c8 ft_X6_41 rfl (by decide +kernel) ?_
    refine s_aload_n (pc := 25) (k0 := 0) (i := 0) rfl 0 rfl (by decide +kernel) ?_
    refine s_getR (pc := 26) (k := 8) c8 ft_X6_58 rfl (by decide +kernel) ?_
    refine S_gd (fun c9 => ?_)
    refine s_cVi (pc := 29) [.ref (hR g6 a0 8)] (tX5_readText (hR g6 a0 5) (hR g6 a0 8) g6) c9 cw_X6_108 rfl ⟨⟨Nat.le_of_ble_eq_true rfl, Nat.le_of_ble_eq_true rfl⟩, Nat.le_of_ble_eq_true rfl⟩ rfl (by decide +kernel) (fun w12 g10 e11 => ?_)
    refine s_istore_n (pc := 32) (L' := [(2, .int w12), (0, .ref a0), (1, .int a1)]) (k0 := 2) (i := 2) rfl (by decide) rfl (by decide +kernel) ?_
    refine s_aload_n (pc := 33) (k0 := 0) (i := 0) rfl 1 rfl (by decide +kernel) ?_
    have c13 := kp e11 c8 (by decide)
    refine s_getR (pc := 34) (k := 5) c13 ft_X6_41 rfl (by decide +kernel) ?_
    refine s_iconst (pc := 37) (n := 0) (v := (0 : Int32)) (by decide) (by decide +kernel) ?_
    refine S_gd (fun c14 => ?_)
    refine s_putI (pc := 38) (k := 0) c14 ft_X6_91 (fw_5_0 _ _) rfl rfl (by decide +kernel) ?_
    refine s_nmH (o := g10) rfl (fun g15 e16 => ?_)
    refine s_iload_n (pc := 41) (k0 := 2) (i := 2) rfl 0 rfl (by decide +kernel) ?_
    refine s_if_ne (pc := 42) (off := 10) 52 (by decide +kernel) (by decide) (fun _ => ?_) (fun _ => ?_)
    · refine s_aload_n (pc := 45) (k0 := 0) (i := 0) rfl 1 rfl (by decide +kernel) ?_
      refine s_bipush (pc := 46) (n := -6) (v := (-6 : Int32)) (by decide) (by decide +kernel) ?_
      have c25 := kp e16 c13 (by decide)
      refine s_cVi (pc := 48) [.int (-6 : Int32)] (tX6_refuse a0 (-6 : Int32) g15) c25 cw_X6_101 rfl ⟨⟨Nat.le_of_ble_eq_true rfl, Nat.le_of_ble_eq_true rfl⟩, Nat.le_of_ble_eq_true rfl⟩ rfl (by decide +kernel) (fun w28 g26 e27 => ?_)
      exact s_iret (pc := 51) rfl (by decide +kernel)
    · refine s_aload_n (pc := 52) (k0 := 0) (i := 0) rfl 1 rfl (by decide +kernel) ?_
      have c17 := kp e16 c13 (by decide)
      refine s_getR (pc := 53) (k := 8) c17 ft_X6_58 rfl (by decide +kernel) ?_
      refine s_aload_n (pc := 56) (k0 := 0) (i := 0) rfl 1 rfl (by decide +kernel) ?_
      refine s_getR (pc := 57) (k := 1) c17 ft_X6_20 rfl (by decide +kernel) ?_
      refine S_gd (fun c18 => ?_)
      refine s_cVv (pc := 60) [.ref (hR g15 a0 1)] (tX1_lowestInto (hR g15 a0 8) (hR g15 a0 1) g15) c18 cw_X6_112 rfl ⟨⟨Nat.le_of_ble_eq_true rfl, Nat.le_of_ble_eq_true rfl⟩, Nat.le_of_ble_eq_true rfl⟩ rfl (by decide +kernel) (fun _ g19 e20 => ?_)
      refine s_aload_n (pc := 63) (k0 := 0) (i := 0) rfl 1 rfl (by decide +kernel) ?_
      refine s_iconst (pc := 64) (n := 0) (v := (0 : Int32)) (by decide) (by decide +kernel) ?_
      refine s_iload_n (pc := 65) (k0 := 1) (i := 1) rfl 2 rfl (by decide +kernel) ?_
      have c21 := kp e20 c17 (by decide)
      refine s_cVi (pc := 66) [.int (0 : Int32), .int a1] (tX6_settle a0 (0 : Int32) a1 g19) c21 cw_X6_116 rfl ⟨⟨Nat.le_of_ble_eq_true rfl, Nat.le_of_ble_eq_true rfl⟩, Nat.le_of_ble_eq_true rfl⟩ rfl (by decide +kernel) (fun w24 g22 e23 => ?_)
      exact s_iret (pc := 69) rfl (by decide +kernel)
theorem tX6_read (a0 : Nat) (a1 : Int32) (h : xH) : Ct yX6_read kX6_read emI [.ref a0, .int a1] h (fX6_read a0 a1 h) := Ct_of (by decide +kernel) rfl rfl rfl (Nat.le_of_ble_eq_true rfl) rfl (pX6_read_e a0 a1 h)
def fX6_fault   (a0 : Nat) (h : xH) : Option (Int32 × xH) :=
  if kc h a0 = 6 then
  if kc h (hR h a0 5) = 5 then
  some ((hI h (hR h a0 5) 1), h)
  else none
  else none
theorem pX6_fault_e    (a0 : Nat) (h : xH) : S emI kX6_fault h 0 [(0, .ref a0)] [] h (fX6_fault  a0 h) := by
  unfold fX6_fault
  refine s_aload_n (pc := 0) (k0 := 0) (i := 0) rfl 0 rfl (by decide +kernel) ?_
  refine S_gd (fun c1 => ?_)
  refine s_getR (pc := 1) (k := 5) c1 ft_X6_41 rfl (by decide +kernel) ?_
  refine S_gd (fun c2 => ?_)
  refine s_getI (pc := 4) (k := 1) c2 ft_X6_120 rfl (by decide +kernel) ?_
  exact s_iret (pc := 7) rfl (by decide +kernel)
theorem tX6_fault (a0 : Nat) (h : xH) : Ct yX6_fault kX6_fault emI [.ref a0] h (fX6_fault a0 h) := Ct_of (by decide +kernel) rfl rfl rfl (Nat.le_of_ble_eq_true rfl) rfl (pX6_fault_e a0 h)
def fX6_dot_b16   (a0 : Nat) (h : xH) : Option (Int32 × xH) :=
  if kc h a0 = 6 then
  bd (fX6_refuse a0 (-1 : Int32) h) (fun w4 g2 =>
  some (w4, g2))
  else none
def fX6_dot   (a0 : Nat) (a1 : Int32) (a2 : Int32) (a3 : Int32) (h : xH) : Option (Int32 × xH) :=
  bd (fX6_isPlace a2.toInt64 h) (fun w3 g1 =>
  if w3 = 0 then (
  fX6_dot_b16 a0 g1)
  else (
  bd (fX6_isPlace a3.toInt64 g1) (fun w6 g4 =>
  if w6 = 0 then (
  fX6_dot_b16 a0 g4)
  else (
  bd (fX6_isStore a1 g4) (fun w9 g7 =>
  if w9 = 0 then (
  if kc g7 a0 = 6 then
  bd (fX6_refuse a0 (-2 : Int32) g7) (fun w25 g23 =>
  some (w25, g23))
  else none)
  else (
  if kc g7 a0 = 6 then
  if kc g7 (hR g7 a0 1) = 4 then
  bd (fX4_wipe (hR g7 a0 1) g7) (fun _ g12 =>
  if kc g12 (hR g12 a0 1) = 4 then
  bd (fX4_addKnot (hR g12 a0 1) a2.toInt64 (1 : Int64) a3.toInt64 (1 : Int64) (0 : Int32) g12) (fun _ g16 =>
  bd (fX6_settle a0 (1 : Int32) a1 g16) (fun w21 g19 =>
  some (w21, g19)))
  else none)
  else none
  else none))))))
theorem pX6_dot_b16 {h0 : xH}    (a0 : Nat) (h : xH) : S emI kX6_dot h0 16 [(0, .ref a0)] [] h (fX6_dot_b16  a0 h) := by
  unfold fX6_dot_b16
  refine s_aload_n (pc := 16) (k0 := 0) (i := 0) rfl 0 rfl (by decide +kernel) ?_
  refine s_iconst (pc := 17) (n := -1) (v := (-1 : Int32)) (by decide) (by decide +kernel) ?_
  refine S_gd (fun c1 => ?_)
  refine s_cVi (pc := 18) [.int (-1 : Int32)] (tX6_refuse a0 (-1 : Int32) h) c1 cw_X6_101 rfl ⟨⟨Nat.le_of_ble_eq_true rfl, Nat.le_of_ble_eq_true rfl⟩, Nat.le_of_ble_eq_true rfl⟩ rfl (by decide +kernel) (fun w4 g2 e3 => ?_)
  exact s_iret (pc := 21) rfl (by decide +kernel)
theorem pX6_dot_e    (a0 : Nat) (a1 : Int32) (a2 : Int32) (a3 : Int32) (h : xH) : S emI kX6_dot h 0 [(0, .ref a0), (1, .int a1), (2, .int a2), (3, .int a3)] [] h (fX6_dot  a0 a1 a2 a3 h) := by
  unfold fX6_dot
  refine s_iload_n (pc := 0) (k0 := 2) (i := 2) rfl 2 rfl (by decide +kernel) ?_
  refine s_i2l (pc := 1) (by decide +kernel) ?_
  refine s_cSi (pc := 2) [.long a2.toInt64] (tX6_isPlace a2.toInt64 h) cw_X6_123 rfl ⟨⟨Nat.le_of_ble_eq_true rfl, Nat.le_of_ble_eq_true rfl⟩, Nat.le_of_ble_eq_true rfl⟩ rfl (by decide +kernel) (fun w3 g1 e2 => ?_)
  refine s_if_eq (pc := 5) (off := 11) 16 (by decide +kernel) (by decide) (fun _ => ?_) (fun _ => ?_)
  · refine S_sub [0] rfl ?_
    exact pX6_dot_b16 a0 g1
  · refine s_iload_n (pc := 8) (k0 := 3) (i := 3) rfl 3 rfl (by decide +kernel) ?_
    refine s_i2l (pc := 9) (by decide +kernel) ?_
    refine s_cSi (pc := 10) [.long a3.toInt64] (tX6_isPlace a3.toInt64 g1) cw_X6_123 rfl ⟨⟨Nat.le_of_ble_eq_true rfl, Nat.le_of_ble_eq_true rfl⟩, Nat.le_of_ble_eq_true rfl⟩ rfl (by decide +kernel) (fun w6 g4 e5 => ?_)
    refine s_if_ne (pc := 13) (off := 9) 22 (by decide +kernel) (by decide) (fun _ => ?_) (fun _ => ?_)
    · refine S_sub [0] rfl ?_
      exact pX6_dot_b16 a0 g4
    · refine s_iload_n (pc := 22) (k0 := 1) (i := 1) rfl 1 rfl (by decide +kernel) ?_
      refine s_cSi (pc := 23) [.int a1] (tX6_isStore a1 g4) cw_X6_97 rfl ⟨⟨Nat.le_of_ble_eq_true rfl, Nat.le_of_ble_eq_true rfl⟩, Nat.le_of_ble_eq_true rfl⟩ rfl (by decide +kernel) (fun w9 g7 e8 => ?_)
      refine s_if_ne (pc := 26) (off := 10) 36 (by decide +kernel) (by decide) (fun _ => ?_) (fun _ => ?_)
      · refine s_aload_n (pc := 29) (k0 := 0) (i := 0) rfl 0 rfl (by decide +kernel) ?_
        refine s_bipush (pc := 30) (n := -2) (v := (-2 : Int32)) (by decide) (by decide +kernel) ?_
        refine S_gd (fun c22 => ?_)
        refine s_cVi (pc := 32) [.int (-2 : Int32)] (tX6_refuse a0 (-2 : Int32) g7) c22 cw_X6_101 rfl ⟨⟨Nat.le_of_ble_eq_true rfl, Nat.le_of_ble_eq_true rfl⟩, Nat.le_of_ble_eq_true rfl⟩ rfl (by decide +kernel) (fun w25 g23 e24 => ?_)
        exact s_iret (pc := 35) rfl (by decide +kernel)
      · refine s_aload_n (pc := 36) (k0 := 0) (i := 0) rfl 0 rfl (by decide +kernel) ?_
        refine S_gd (fun c10 => ?_)
        refine s_getR (pc := 37) (k := 1) c10 ft_X6_20 rfl (by decide +kernel) ?_
        refine S_gd (fun c11 => ?_)
        refine s_cVv (pc := 40) [] (tX4_wipe (hR g7 a0 1) g7) c11 cw_X6_127 rfl ⟨⟨Nat.le_of_ble_eq_true rfl, Nat.le_of_ble_eq_true rfl⟩, Nat.le_of_ble_eq_true rfl⟩ rfl (by decide +kernel) (fun _ g12 e13 => ?_)
        refine s_aload_n (pc := 43) (k0 := 0) (i := 0) rfl 0 rfl (by decide +kernel) ?_
        have c14 := kp e13 c10 (by decide)
        refine s_getR (pc := 44) (k := 1) c14 ft_X6_20 rfl (by decide +kernel) ?_
        refine s_iload_n (pc := 47) (k0 := 2) (i := 2) rfl 2 rfl (by decide +kernel) ?_
        refine s_i2l (pc := 48) (by decide +kernel) ?_
        refine s_lconst (pc := 49) (n := 1) (v := (1 : Int64)) (by decide) (by decide +kernel) ?_
        refine s_iload_n (pc := 50) (k0 := 3) (i := 3) rfl 3 rfl (by decide +kernel) ?_
        refine s_i2l (pc := 51) (by decide +kernel) ?_
        refine s_lconst (pc := 52) (n := 1) (v := (1 : Int64)) (by decide) (by decide +kernel) ?_
        refine s_iconst (pc := 53) (n := 0) (v := (0 : Int32)) (by decide) (by decide +kernel) ?_
        refine S_gd (fun c15 => ?_)
        refine s_cVv (pc := 54) [.long a2.toInt64, .long (1 : Int64), .long a3.toInt64, .long (1 : Int64), .int (0 : Int32)] (tX4_addKnot (hR g12 a0 1) a2.toInt64 (1 : Int64) a3.toInt64 (1 : Int64) (0 : Int32) g12) c15 cw_X6_130 rfl ⟨⟨Nat.le_of_ble_eq_true rfl, Nat.le_of_ble_eq_true rfl⟩, Nat.le_of_ble_eq_true rfl⟩ rfl (by decide +kernel) (fun _ g16 e17 => ?_)
        refine s_aload_n (pc := 57) (k0 := 0) (i := 0) rfl 0 rfl (by decide +kernel) ?_
        refine s_iconst (pc := 58) (n := 1) (v := (1 : Int32)) (by decide) (by decide +kernel) ?_
        refine s_iload_n (pc := 59) (k0 := 1) (i := 1) rfl 1 rfl (by decide +kernel) ?_
        have c18 := kp e17 c14 (by decide)
        refine s_cVi (pc := 60) [.int (1 : Int32), .int a1] (tX6_settle a0 (1 : Int32) a1 g16) c18 cw_X6_116 rfl ⟨⟨Nat.le_of_ble_eq_true rfl, Nat.le_of_ble_eq_true rfl⟩, Nat.le_of_ble_eq_true rfl⟩ rfl (by decide +kernel) (fun w21 g19 e20 => ?_)
        exact s_iret (pc := 63) rfl (by decide +kernel)
theorem tX6_dot (a0 : Nat) (a1 : Int32) (a2 : Int32) (a3 : Int32) (h : xH) : Ct yX6_dot kX6_dot emI [.ref a0, .int a1, .int a2, .int a3] h (fX6_dot a0 a1 a2 a3 h) := Ct_of (by decide +kernel) rfl rfl rfl (Nat.le_of_ble_eq_true rfl) rfl (pX6_dot_e a0 a1 a2 a3 h)
def fX6_clear   (a0 : Nat) (a1 : Int32) (h : xH) : Option (Int32 × xH) :=
  bd (fX6_isStore a1 h) (fun w3 g1 =>
  if w3 = 0 then (
  if kc g1 a0 = 6 then
  bd (fX6_refuse a0 (-2 : Int32) g1) (fun w19 g17 =>
  some (w19, g17))
  else none)
  else (
  if kc g1 a0 = 6 then
  if kc g1 (hR g1 a0 0) = 12 then
  if ix a1 (kl g1 (hR g1 a0 0)) then
  if kc g1 (hR g1 (hR g1 a0 0) a1.toNatClampNeg) = 4 then
  lt (hI g1 (hR g1 (hR g1 a0 0) a1.toNatClampNeg) 0) (fun v8 =>
  if kc g1 (hR g1 a0 1) = 4 then
  bd (fX4_wipe (hR g1 a0 1) g1) (fun _ g10 =>
  bd (fX6_settle a0 (2 : Int32) a1 g10) (fun w15 g13 =>
  some (v8, g13)))
  else none)
  else none
  else none
  else none
  else none))
theorem pX6_clear_e    (a0 : Nat) (a1 : Int32) (h : xH) : S emI kX6_clear h 0 [(0, .ref a0), (1, .int a1)] [] h (fX6_clear  a0 a1 h) := by
  unfold fX6_clear
  refine s_iload_n (pc := 0) (k0 := 1) (i := 1) rfl 1 rfl (by decide +kernel) ?_
  refine s_cSi (pc := 1) [.int a1] (tX6_isStore a1 h) cw_X6_97 rfl ⟨⟨Nat.le_of_ble_eq_true rfl, Nat.le_of_ble_eq_true rfl⟩, Nat.le_of_ble_eq_true rfl⟩ rfl (by decide +kernel) (fun w3 g1 e2 => ?_)
  refine s_if_ne (pc := 4) (off := 10) 14 (by decide +kernel) (by decide) (fun _ => ?_) (fun _ => ?_)
  · refine s_aload_n (pc := 7) (k0 := 0) (i := 0) rfl 0 rfl (by decide +kernel) ?_
    refine s_bipush (pc := 8) (n := -2) (v := (-2 : Int32)) (by decide) (by decide +kernel) ?_
    refine S_gd (fun c16 => ?_)
    refine s_cVi (pc := 10) [.int (-2 : Int32)] (tX6_refuse a0 (-2 : Int32) g1) c16 cw_X6_101 rfl ⟨⟨Nat.le_of_ble_eq_true rfl, Nat.le_of_ble_eq_true rfl⟩, Nat.le_of_ble_eq_true rfl⟩ rfl (by decide +kernel) (fun w19 g17 e18 => ?_)
    exact s_iret (pc := 13) rfl (by decide +kernel)
  · refine s_aload_n (pc := 14) (k0 := 0) (i := 0) rfl 0 rfl (by decide +kernel) ?_
    refine S_gd (fun c4 => ?_)
    refine s_getR (pc := 15) (k := 0) c4 ft_X6_15 rfl (by decide +kernel) ?_
    refine s_iload_n (pc := 18) (k0 := 1) (i := 1) rfl 1 rfl (by decide +kernel) ?_
    refine S_gd (fun c5 => ?_)
    refine S_gd (fun c6 => ?_)
    refine s_aald (pc := 19) c5 c6 (by decide +kernel) ?_
    refine S_gd (fun c7 => ?_)
    refine s_getI (pc := 20) (k := 0) c7 ft_X6_134 rfl (by decide +kernel) ?_
    refine s_nmI (fun v8 => ?_)
    refine s_istore_n (pc := 23) (L' := [(2, .int v8), (0, .ref a0), (1, .int a1)]) (k0 := 2) (i := 2) rfl (by decide) rfl (by decide +kernel) ?_
    refine s_aload_n (pc := 24) (k0 := 0) (i := 0) rfl 1 rfl (by decide +kernel) ?_
    refine s_getR (pc := 25) (k := 1) c4 ft_X6_20 rfl (by decide +kernel) ?_
    refine S_gd (fun c9 => ?_)
    refine s_cVv (pc := 28) [] (tX4_wipe (hR g1 a0 1) g1) c9 cw_X6_127 rfl ⟨⟨Nat.le_of_ble_eq_true rfl, Nat.le_of_ble_eq_true rfl⟩, Nat.le_of_ble_eq_true rfl⟩ rfl (by decide +kernel) (fun _ g10 e11 => ?_)
    refine s_aload_n (pc := 31) (k0 := 0) (i := 0) rfl 1 rfl (by decide +kernel) ?_
    refine s_iconst (pc := 32) (n := 2) (v := (2 : Int32)) (by decide) (by decide +kernel) ?_
    refine s_iload_n (pc := 33) (k0 := 1) (i := 1) rfl 2 rfl (by decide +kernel) ?_
    have c12 := kp e11 c4 (by decide)
    refine s_cVi (pc := 34) [.int (2 : Int32), .int a1] (tX6_settle a0 (2 : Int32) a1 g10) c12 cw_X6_116 rfl ⟨⟨Nat.le_of_ble_eq_true rfl, Nat.le_of_ble_eq_true rfl⟩, Nat.le_of_ble_eq_true rfl⟩ rfl (by decide +kernel) (fun w15 g13 e14 => ?_)
    refine s_pop_i (pc := 37) (by decide +kernel) ?_
    refine s_iload_n (pc := 38) (k0 := 2) (i := 2) rfl 0 rfl (by decide +kernel) ?_
    exact s_iret (pc := 39) rfl (by decide +kernel)
theorem tX6_clear (a0 : Nat) (a1 : Int32) (h : xH) : Ct yX6_clear kX6_clear emI [.ref a0, .int a1] h (fX6_clear a0 a1 h) := Ct_of (by decide +kernel) rfl rfl rfl (Nat.le_of_ble_eq_true rfl) rfl (pX6_clear_e a0 a1 h)
def fX6_loadOne   (a0 : Nat) (a1 : Int32) (h : xH) : Option (Unit × xH) :=
  if kc h a0 = 6 then
  if kc h (hR h a0 9) = 1 then
  bd (fX1_start (hR h a0 9) h) (fun _ g3 =>
  if kc g3 (hR g3 a0 0) = 12 then
  if ix a1 (kl g3 (hR g3 a0 0)) then
  if kc g3 (hR g3 a0 9) = 1 then
  bd (fX1_addShape (hR g3 a0 9) (hR g3 (hR g3 a0 0) a1.toNatClampNeg) g3) (fun _ g9 =>
  if kc g9 (hR g9 a0 8) = 1 then
  bd (fX1_start (hR g9 a0 8) g9) (fun _ g13 =>
  some ((), g13))
  else none)
  else none
  else none
  else none)
  else none
  else none
theorem pX6_loadOne_e    (a0 : Nat) (a1 : Int32) (h : xH) : S emV kX6_loadOne h 0 [(0, .ref a0), (1, .int a1)] [] h (fX6_loadOne  a0 a1 h) := by
  unfold fX6_loadOne
  refine s_aload_n (pc := 0) (k0 := 0) (i := 0) rfl 0 rfl (by decide +kernel) ?_
  refine S_gd (fun c1 => ?_)
  refine s_getR (pc := 1) (k := 9) c1 ft_X6_62 rfl (by decide +kernel) ?_
  refine S_gd (fun c2 => ?_)
  refine s_cVv (pc := 4) [] (tX1_start (hR h a0 9) h) c2 cw_X6_105 rfl ⟨⟨Nat.le_of_ble_eq_true rfl, Nat.le_of_ble_eq_true rfl⟩, Nat.le_of_ble_eq_true rfl⟩ rfl (by decide +kernel) (fun _ g3 e4 => ?_)
  refine s_aload_n (pc := 7) (k0 := 0) (i := 0) rfl 0 rfl (by decide +kernel) ?_
  have c5 := kp e4 c1 (by decide)
  refine s_getR (pc := 8) (k := 9) c5 ft_X6_62 rfl (by decide +kernel) ?_
  refine s_aload_n (pc := 11) (k0 := 0) (i := 0) rfl 0 rfl (by decide +kernel) ?_
  refine s_getR (pc := 12) (k := 0) c5 ft_X6_15 rfl (by decide +kernel) ?_
  refine s_iload_n (pc := 15) (k0 := 1) (i := 1) rfl 1 rfl (by decide +kernel) ?_
  refine S_gd (fun c6 => ?_)
  refine S_gd (fun c7 => ?_)
  refine s_aald (pc := 16) c6 c7 (by decide +kernel) ?_
  refine S_gd (fun c8 => ?_)
  refine s_cVv (pc := 17) [.ref (hR g3 (hR g3 a0 0) a1.toNatClampNeg)] (tX1_addShape (hR g3 a0 9) (hR g3 (hR g3 a0 0) a1.toNatClampNeg) g3) c8 cw_X6_158 rfl ⟨⟨Nat.le_of_ble_eq_true rfl, Nat.le_of_ble_eq_true rfl⟩, Nat.le_of_ble_eq_true rfl⟩ rfl (by decide +kernel) (fun _ g9 e10 => ?_)
  refine s_aload_n (pc := 20) (k0 := 0) (i := 0) rfl 0 rfl (by decide +kernel) ?_
  have c11 := kp e10 c5 (by decide)
  refine s_getR (pc := 21) (k := 8) c11 ft_X6_58 rfl (by decide +kernel) ?_
  refine S_gd (fun c12 => ?_)
  refine s_cVv (pc := 24) [] (tX1_start (hR g9 a0 8) g9) c12 cw_X6_105 rfl ⟨⟨Nat.le_of_ble_eq_true rfl, Nat.le_of_ble_eq_true rfl⟩, Nat.le_of_ble_eq_true rfl⟩ rfl (by decide +kernel) (fun _ g13 e14 => ?_)
  exact s_vret (pc := 27) rfl (by decide +kernel)
theorem tX6_loadOne (a0 : Nat) (a1 : Int32) (h : xH) : Ct yX6_loadOne kX6_loadOne emV [.ref a0, .int a1] h (fX6_loadOne a0 a1 h) := Ct_of (by decide +kernel) rfl rfl rfl (Nat.le_of_ble_eq_true rfl) rfl (pX6_loadOne_e a0 a1 h)
def fX6_loadPair   (a0 : Nat) (a1 : Int32) (a2 : Int32) (h : xH) : Option (Unit × xH) :=
  if kc h a0 = 6 then
  bd (fX6_loadOne a0 a1 h) (fun _ g2 =>
  if kc g2 (hR g2 a0 10) = 1 then
  bd (fX1_start (hR g2 a0 10) g2) (fun _ g6 =>
  if kc g6 (hR g6 a0 0) = 12 then
  if ix a2 (kl g6 (hR g6 a0 0)) then
  if kc g6 (hR g6 a0 10) = 1 then
  bd (fX1_addShape (hR g6 a0 10) (hR g6 (hR g6 a0 0) a2.toNatClampNeg) g6) (fun _ g12 =>
  some ((), g12))
  else none
  else none
  else none)
  else none)
  else none
theorem pX6_loadPair_e    (a0 : Nat) (a1 : Int32) (a2 : Int32) (h : xH) : S emV kX6_loadPair h 0 [(0, .ref a0), (1, .int a1), (2, .int a2)] [] h (fX6_loadPair  a0 a1 a2 h) := by
  unfold fX6_loadPair
  refine s_aload_n (pc := 0) (k0 := 0) (i := 0) rfl 0 rfl (by decide +kernel) ?_
  refine s_iload_n (pc := 1) (k0 := 1) (i := 1) rfl 1 rfl (by decide +kernel) ?_
  refine S_gd (fun c1 => ?_)
  refine s_cVv (pc := 2) [.int a1] (tX6_loadOne a0 a1 h) c1 cw_X6_173 rfl ⟨⟨Nat.le_of_ble_eq_true rfl, Nat.le_of_ble_eq_true rfl⟩, Nat.le_of_ble_eq_true rfl⟩ rfl (by decide +kernel) (fun _ g2 e3 => ?_)
  refine s_aload_n (pc := 5) (k0 := 0) (i := 0) rfl 0 rfl (by decide +kernel) ?_
  have c4 := kp e3 c1 (by decide)
  refine s_getR (pc := 6) (k := 10) c4 ft_X6_65 rfl (by decide +kernel) ?_
  refine S_gd (fun c5 => ?_)
  refine s_cVv (pc := 9) [] (tX1_start (hR g2 a0 10) g2) c5 cw_X6_105 rfl ⟨⟨Nat.le_of_ble_eq_true rfl, Nat.le_of_ble_eq_true rfl⟩, Nat.le_of_ble_eq_true rfl⟩ rfl (by decide +kernel) (fun _ g6 e7 => ?_)
  refine s_aload_n (pc := 12) (k0 := 0) (i := 0) rfl 0 rfl (by decide +kernel) ?_
  have c8 := kp e7 c4 (by decide)
  refine s_getR (pc := 13) (k := 10) c8 ft_X6_65 rfl (by decide +kernel) ?_
  refine s_aload_n (pc := 16) (k0 := 0) (i := 0) rfl 0 rfl (by decide +kernel) ?_
  refine s_getR (pc := 17) (k := 0) c8 ft_X6_15 rfl (by decide +kernel) ?_
  refine s_iload_n (pc := 20) (k0 := 2) (i := 2) rfl 2 rfl (by decide +kernel) ?_
  refine S_gd (fun c9 => ?_)
  refine S_gd (fun c10 => ?_)
  refine s_aald (pc := 21) c9 c10 (by decide +kernel) ?_
  refine S_gd (fun c11 => ?_)
  refine s_cVv (pc := 22) [.ref (hR g6 (hR g6 a0 0) a2.toNatClampNeg)] (tX1_addShape (hR g6 a0 10) (hR g6 (hR g6 a0 0) a2.toNatClampNeg) g6) c11 cw_X6_158 rfl ⟨⟨Nat.le_of_ble_eq_true rfl, Nat.le_of_ble_eq_true rfl⟩, Nat.le_of_ble_eq_true rfl⟩ rfl (by decide +kernel) (fun _ g12 e13 => ?_)
  exact s_vret (pc := 25) rfl (by decide +kernel)
theorem tX6_loadPair (a0 : Nat) (a1 : Int32) (a2 : Int32) (h : xH) : Ct yX6_loadPair kX6_loadPair emV [.ref a0, .int a1, .int a2] h (fX6_loadPair a0 a1 a2 h) := Ct_of (by decide +kernel) rfl rfl rfl (Nat.le_of_ble_eq_true rfl) rfl (pX6_loadPair_e a0 a1 a2 h)
def fX6_ontoPaper   (a0 : Nat) (a1 : Int32) (h : xH) : Option (Int32 × xH) :=
  if kc h a0 = 6 then
  if kc h (hR h a0 8) = 1 then
  bd (fX1_lowestInto (hR h a0 8) (hR h a0 1) h) (fun _ g3 =>
  bd (fX6_settle a0 a1 (6 : Int32) g3) (fun w8 g6 =>
  some (w8, g6)))
  else none
  else none
theorem pX6_ontoPaper_e    (a0 : Nat) (a1 : Int32) (h : xH) : S emI kX6_ontoPaper h 0 [(0, .ref a0), (1, .int a1)] [] h (fX6_ontoPaper  a0 a1 h) := by
  unfold fX6_ontoPaper
  refine s_aload_n (pc := 0) (k0 := 0) (i := 0) rfl 0 rfl (by decide +kernel) ?_
  refine S_gd (fun c1 => ?_)
  refine s_getR (pc := 1) (k := 8) c1 ft_X6_58 rfl (by decide +kernel) ?_
  refine s_aload_n (pc := 4) (k0 := 0) (i := 0) rfl 0 rfl (by decide +kernel) ?_
  refine s_getR (pc := 5) (k := 1) c1 ft_X6_20 rfl (by decide +kernel) ?_
  refine S_gd (fun c2 => ?_)
  refine s_cVv (pc := 8) [.ref (hR h a0 1)] (tX1_lowestInto (hR h a0 8) (hR h a0 1) h) c2 cw_X6_112 rfl ⟨⟨Nat.le_of_ble_eq_true rfl, Nat.le_of_ble_eq_true rfl⟩, Nat.le_of_ble_eq_true rfl⟩ rfl (by decide +kernel) (fun _ g3 e4 => ?_)
  refine s_aload_n (pc := 11) (k0 := 0) (i := 0) rfl 0 rfl (by decide +kernel) ?_
  refine s_iload_n (pc := 12) (k0 := 1) (i := 1) rfl 1 rfl (by decide +kernel) ?_
  refine s_bipush (pc := 13) (n := 6) (v := (6 : Int32)) (by decide) (by decide +kernel) ?_
  have c5 := kp e4 c1 (by decide)
  refine s_cVi (pc := 15) [.int a1, .int (6 : Int32)] (tX6_settle a0 a1 (6 : Int32) g3) c5 cw_X6_116 rfl ⟨⟨Nat.le_of_ble_eq_true rfl, Nat.le_of_ble_eq_true rfl⟩, Nat.le_of_ble_eq_true rfl⟩ rfl (by decide +kernel) (fun w8 g6 e7 => ?_)
  exact s_iret (pc := 18) rfl (by decide +kernel)
theorem tX6_ontoPaper (a0 : Nat) (a1 : Int32) (h : xH) : Ct yX6_ontoPaper kX6_ontoPaper emI [.ref a0, .int a1] h (fX6_ontoPaper a0 a1 h) := Ct_of (by decide +kernel) rfl rfl rfl (Nat.le_of_ble_eq_true rfl) rfl (pX6_ontoPaper_e a0 a1 h)
def fX6_sum_b14   (a0 : Nat) (h : xH) : Option (Int32 × xH) :=
  if kc h a0 = 6 then
  bd (fX6_refuse a0 (-2 : Int32) h) (fun w4 g2 =>
  some (w4, g2))
  else none
def fX6_sum_b43 (r29 : Nat → Int32 → xH → Option (Int32 × xH)) (r43 : Nat → Int32 → Int32 → xH → Option (Int32 × xH))  (a0 : Nat) (a3 : Int32) (a4 : Int32) (h : xH) : Option (Int32 × xH) :=
  if kc h a0 = 6 then
  if kc h (hR h a0 10) = 1 then
  if (hI h (hR h a0 10) 0) ≤ a4 then (
  lt (a3 + (1 : Int32)) (fun v3 =>
  r29 a0 v3 h))
  else (
  if kc h (hR h a0 8) = 1 then
  bd (fX1_addSum (hR h a0 8) (hR h a0 9) a3 (hR h a0 10) a4 h) (fun _ g5 =>
  lt (a4 + (1 : Int32)) (fun v7 =>
  r43 a0 a3 v7 g5))
  else none)
  else none
  else none
def fX6_sum_l43 (r29 : Nat → Int32 → xH → Option (Int32 × xH)) : Nat → Nat → Int32 → Int32 → xH → Option (Int32 × xH)
  | 0 => fun _ _ _ _ => none
  | k + 1 => fX6_sum_b43 r29 (fX6_sum_l43 r29 k)
def fX6_sum_b29 (r29 : Nat → Int32 → xH → Option (Int32 × xH))  (a0 : Nat) (a3 : Int32) (h : xH) : Option (Int32 × xH) :=
  if kc h a0 = 6 then
  if kc h (hR h a0 9) = 1 then
  if (hI h (hR h a0 9) 0) ≤ a3 then (
  bd (fX6_ontoPaper a0 (3 : Int32) h) (fun w5 g3 =>
  some (w5, g3)))
  else (
  lt (0 : Int32) (fun v6 =>
  fX6_sum_l43 r29 FU a0 a3 v6 h))
  else none
  else none
def fX6_sum_l29  : Nat → Nat → Int32 → xH → Option (Int32 × xH)
  | 0 => fun _ _ _ => none
  | k + 1 => fX6_sum_b29 (fX6_sum_l29  k)
def fX6_sum   (a0 : Nat) (a1 : Int32) (a2 : Int32) (h : xH) : Option (Int32 × xH) :=
  bd (fX6_isStore a1 h) (fun w3 g1 =>
  if w3 = 0 then (
  fX6_sum_b14 a0 g1)
  else (
  bd (fX6_isStore a2 g1) (fun w6 g4 =>
  if w6 = 0 then (
  fX6_sum_b14 a0 g4)
  else (
  if kc g4 a0 = 6 then
  bd (fX6_loadPair a0 a1 a2 g4) (fun _ g8 =>
  lt (0 : Int32) (fun v10 =>
  fX6_sum_l29 FU a0 v10 g8))
  else none))))
theorem pX6_sum_b14 {h0 : xH}    (a0 : Nat) (h : xH) : S emI kX6_sum h0 14 [(0, .ref a0)] [] h (fX6_sum_b14  a0 h) := by
  unfold fX6_sum_b14
  refine s_aload_n (pc := 14) (k0 := 0) (i := 0) rfl 0 rfl (by decide +kernel) ?_
  refine s_bipush (pc := 15) (n := -2) (v := (-2 : Int32)) (by decide) (by decide +kernel) ?_
  refine S_gd (fun c1 => ?_)
  refine s_cVi (pc := 17) [.int (-2 : Int32)] (tX6_refuse a0 (-2 : Int32) h) c1 cw_X6_101 rfl ⟨⟨Nat.le_of_ble_eq_true rfl, Nat.le_of_ble_eq_true rfl⟩, Nat.le_of_ble_eq_true rfl⟩ rfl (by decide +kernel) (fun w4 g2 e3 => ?_)
  exact s_iret (pc := 20) rfl (by decide +kernel)
theorem pX6_sum_b43 {h0 : xH} {r29 : Nat → Int32 → xH → Option (Int32 × xH)} {r43 : Nat → Int32 → Int32 → xH → Option (Int32 × xH)} (hr29 : ∀  (a0 : Nat) (a3 : Int32) (g : xH), S emI kX6_sum h0 29 [(0, .ref a0), (3, .int a3)] [] g (r29  a0 a3 g)) (hr43 : ∀  (a0 : Nat) (a3 : Int32) (a4 : Int32) (g : xH), S emI kX6_sum h0 43 [(0, .ref a0), (3, .int a3), (4, .int a4)] [] g (r43  a0 a3 a4 g))  (a0 : Nat) (a3 : Int32) (a4 : Int32) (h : xH) : S emI kX6_sum h0 43 [(0, .ref a0), (3, .int a3), (4, .int a4)] [] h (fX6_sum_b43 r29 r43 a0 a3 a4 h) := by
  unfold fX6_sum_b43
  refine s_iload (pc := 43) (i := 4) 2 rfl (by decide +kernel) ?_
  refine s_aload_n (pc := 45) (k0 := 0) (i := 0) rfl 0 rfl (by decide +kernel) ?_
  refine S_gd (fun c1 => ?_)
  refine s_getR (pc := 46) (k := 10) c1 ft_X6_65 rfl (by decide +kernel) ?_
  refine S_gd (fun c2 => ?_)
  refine s_getI (pc := 49) (k := 0) c2 ft_X6_148 rfl (by decide +kernel) ?_
  refine s_icmp_ge (pc := 52) (off := 27) 79 (by decide +kernel) (by decide) (fun _ => ?_) (fun _ => ?_)
  · refine s_iinc (pc := 79) (L' := [(3, .int (a3 + (1 : Int32))), (0, .ref a0), (4, .int a4)]) (i := 3) (n := 1) 1 rfl rfl (by decide) rfl (by decide +kernel) ?_
    refine s_nmI0 (e := a3 + (1 : Int32)) (L := fun v3 => [(3, .int v3), (0, .ref a0), (4, .int a4)]) (fun v3 => ?_)
    refine s_goto (pc := 82) (off := -53) 29 (by decide +kernel) (by decide) ?_
    refine S_sub [1, 0] rfl ?_
    exact hr29 a0 v3 h
  · refine s_aload_n (pc := 55) (k0 := 0) (i := 0) rfl 0 rfl (by decide +kernel) ?_
    refine s_getR (pc := 56) (k := 8) c1 ft_X6_58 rfl (by decide +kernel) ?_
    refine s_aload_n (pc := 59) (k0 := 0) (i := 0) rfl 0 rfl (by decide +kernel) ?_
    refine s_getR (pc := 60) (k := 9) c1 ft_X6_62 rfl (by decide +kernel) ?_
    refine s_iload_n (pc := 63) (k0 := 3) (i := 3) rfl 1 rfl (by decide +kernel) ?_
    refine s_aload_n (pc := 64) (k0 := 0) (i := 0) rfl 0 rfl (by decide +kernel) ?_
    refine s_getR (pc := 65) (k := 10) c1 ft_X6_65 rfl (by decide +kernel) ?_
    refine s_iload (pc := 68) (i := 4) 2 rfl (by decide +kernel) ?_
    refine S_gd (fun c4 => ?_)
    refine s_cVv (pc := 70) [.ref (hR h a0 9), .int a3, .ref (hR h a0 10), .int a4] (tX1_addSum (hR h a0 8) (hR h a0 9) a3 (hR h a0 10) a4 h) c4 cw_X6_151 rfl ⟨⟨Nat.le_of_ble_eq_true rfl, Nat.le_of_ble_eq_true rfl⟩, Nat.le_of_ble_eq_true rfl⟩ rfl (by decide +kernel) (fun _ g5 e6 => ?_)
    refine s_iinc (pc := 73) (L' := [(4, .int (a4 + (1 : Int32))), (0, .ref a0), (3, .int a3)]) (i := 4) (n := 1) 2 rfl rfl (by decide) rfl (by decide +kernel) ?_
    refine s_nmI0 (e := a4 + (1 : Int32)) (L := fun v7 => [(4, .int v7), (0, .ref a0), (3, .int a3)]) (fun v7 => ?_)
    refine s_goto (pc := 76) (off := -33) 43 (by decide +kernel) (by decide) ?_
    refine S_sub [1, 2, 0] rfl ?_
    exact hr43 a0 a3 v7 g5
theorem pX6_sum_l43 {h0 : xH} {r29 : Nat → Int32 → xH → Option (Int32 × xH)} (hr29 : ∀  (a0 : Nat) (a3 : Int32) (g : xH), S emI kX6_sum h0 29 [(0, .ref a0), (3, .int a3)] [] g (r29  a0 a3 g)) : ∀ (k : Nat)  (a0 : Nat) (a3 : Int32) (a4 : Int32) (h : xH), S emI kX6_sum h0 43 [(0, .ref a0), (3, .int a3), (4, .int a4)] [] h (fX6_sum_l43 r29 k  a0 a3 a4 h) := by
  intro k
  induction k with
  | zero => intros; exact S_none
  | succ k ih => intro  a0 a3 a4 h; exact pX6_sum_b43 hr29 ih  a0 a3 a4 h
theorem pX6_sum_b29 {h0 : xH} {r29 : Nat → Int32 → xH → Option (Int32 × xH)} (hr29 : ∀  (a0 : Nat) (a3 : Int32) (g : xH), S emI kX6_sum h0 29 [(0, .ref a0), (3, .int a3)] [] g (r29  a0 a3 g))  (a0 : Nat) (a3 : Int32) (h : xH) : S emI kX6_sum h0 29 [(0, .ref a0), (3, .int a3)] [] h (fX6_sum_b29 r29 a0 a3 h) := by
  unfold fX6_sum_b29
  refine s_iload_n (pc := 29) (k0 := 3) (i := 3) rfl 1 rfl (by decide +kernel) ?_
  refine s_aload_n (pc := 30) (k0 := 0) (i := 0) rfl 0 rfl (by decide +kernel) ?_
  refine S_gd (fun c1 => ?_)
  refine s_getR (pc := 31) (k := 9) c1 ft_X6_62 rfl (by decide +kernel) ?_
  refine S_gd (fun c2 => ?_)
  refine s_getI (pc := 34) (k := 0) c2 ft_X6_148 rfl (by decide +kernel) ?_
  refine s_icmp_ge (pc := 37) (off := 48) 85 (by decide +kernel) (by decide) (fun _ => ?_) (fun _ => ?_)
  · refine s_aload_n (pc := 85) (k0 := 0) (i := 0) rfl 0 rfl (by decide +kernel) ?_
    refine s_iconst (pc := 86) (n := 3) (v := (3 : Int32)) (by decide) (by decide +kernel) ?_
    refine s_cVi (pc := 87) [.int (3 : Int32)] (tX6_ontoPaper a0 (3 : Int32) h) c1 cw_X6_155 rfl ⟨⟨Nat.le_of_ble_eq_true rfl, Nat.le_of_ble_eq_true rfl⟩, Nat.le_of_ble_eq_true rfl⟩ rfl (by decide +kernel) (fun w5 g3 e4 => ?_)
    exact s_iret (pc := 90) rfl (by decide +kernel)
  · refine s_iconst (pc := 40) (n := 0) (v := (0 : Int32)) (by decide) (by decide +kernel) ?_
    refine s_nmI (fun v6 => ?_)
    refine s_istore (pc := 41) (L' := [(4, .int v6), (0, .ref a0), (3, .int a3)]) (i := 4) (by decide) rfl (by decide +kernel) ?_
    refine S_sub [1, 2, 0] rfl ?_
    exact pX6_sum_l43 hr29 FU a0 a3 v6 h
theorem pX6_sum_l29 {h0 : xH}   : ∀ (k : Nat)  (a0 : Nat) (a3 : Int32) (h : xH), S emI kX6_sum h0 29 [(0, .ref a0), (3, .int a3)] [] h (fX6_sum_l29  k  a0 a3 h) := by
  intro k
  induction k with
  | zero => intros; exact S_none
  | succ k ih => intro  a0 a3 h; exact pX6_sum_b29 ih  a0 a3 h
theorem pX6_sum_e    (a0 : Nat) (a1 : Int32) (a2 : Int32) (h : xH) : S emI kX6_sum h 0 [(0, .ref a0), (1, .int a1), (2, .int a2)] [] h (fX6_sum  a0 a1 a2 h) := by
  unfold fX6_sum
  refine s_iload_n (pc := 0) (k0 := 1) (i := 1) rfl 1 rfl (by decide +kernel) ?_
  refine s_cSi (pc := 1) [.int a1] (tX6_isStore a1 h) cw_X6_97 rfl ⟨⟨Nat.le_of_ble_eq_true rfl, Nat.le_of_ble_eq_true rfl⟩, Nat.le_of_ble_eq_true rfl⟩ rfl (by decide +kernel) (fun w3 g1 e2 => ?_)
  refine s_if_eq (pc := 4) (off := 10) 14 (by decide +kernel) (by decide) (fun _ => ?_) (fun _ => ?_)
  · refine S_sub [0] rfl ?_
    exact pX6_sum_b14 a0 g1
  · refine s_iload_n (pc := 7) (k0 := 2) (i := 2) rfl 2 rfl (by decide +kernel) ?_
    refine s_cSi (pc := 8) [.int a2] (tX6_isStore a2 g1) cw_X6_97 rfl ⟨⟨Nat.le_of_ble_eq_true rfl, Nat.le_of_ble_eq_true rfl⟩, Nat.le_of_ble_eq_true rfl⟩ rfl (by decide +kernel) (fun w6 g4 e5 => ?_)
    refine s_if_ne (pc := 11) (off := 10) 21 (by decide +kernel) (by decide) (fun _ => ?_) (fun _ => ?_)
    · refine S_sub [0] rfl ?_
      exact pX6_sum_b14 a0 g4
    · refine s_aload_n (pc := 21) (k0 := 0) (i := 0) rfl 0 rfl (by decide +kernel) ?_
      refine s_iload_n (pc := 22) (k0 := 1) (i := 1) rfl 1 rfl (by decide +kernel) ?_
      refine s_iload_n (pc := 23) (k0 := 2) (i := 2) rfl 2 rfl (by decide +kernel) ?_
      refine S_gd (fun c7 => ?_)
      refine s_cVv (pc := 24) [.int a1, .int a2] (tX6_loadPair a0 a1 a2 g4) c7 cw_X6_144 rfl ⟨⟨Nat.le_of_ble_eq_true rfl, Nat.le_of_ble_eq_true rfl⟩, Nat.le_of_ble_eq_true rfl⟩ rfl (by decide +kernel) (fun _ g8 e9 => ?_)
      refine s_iconst (pc := 27) (n := 0) (v := (0 : Int32)) (by decide) (by decide +kernel) ?_
      refine s_nmI (fun v10 => ?_)
      refine s_istore_n (pc := 28) (L' := [(3, .int v10), (0, .ref a0), (1, .int a1), (2, .int a2)]) (k0 := 3) (i := 3) rfl (by decide) rfl (by decide +kernel) ?_
      refine S_sub [1, 0] rfl ?_
      exact pX6_sum_l29 FU a0 v10 g8
theorem tX6_sum (a0 : Nat) (a1 : Int32) (a2 : Int32) (h : xH) : Ct yX6_sum kX6_sum emI [.ref a0, .int a1, .int a2] h (fX6_sum a0 a1 a2 h) := Ct_of (by decide +kernel) rfl rfl rfl (Nat.le_of_ble_eq_true rfl) rfl (pX6_sum_e a0 a1 a2 h)
def fX6_under_b14   (a0 : Nat) (h : xH) : Option (Int32 × xH) :=
  if kc h a0 = 6 then
  bd (fX6_refuse a0 (-2 : Int32) h) (fun w4 g2 =>
  some (w4, g2))
  else none
def fX6_under   (a0 : Nat) (a1 : Int32) (a2 : Int32) (h : xH) : Option (Int32 × xH) :=
  bd (fX6_isStore a1 h) (fun w3 g1 =>
  if w3 = 0 then (
  fX6_under_b14 a0 g1)
  else (
  bd (fX6_isStore a2 g1) (fun w6 g4 =>
  if w6 = 0 then (
  fX6_under_b14 a0 g4)
  else (
  if kc g4 a0 = 6 then
  if kc g4 (hR g4 a0 8) = 1 then
  bd (fX1_start (hR g4 a0 8) g4) (fun _ g9 =>
  if kc g9 (hR g9 a0 0) = 12 then
  if ix a1 (kl g9 (hR g9 a0 0)) then
  if kc g9 (hR g9 a0 8) = 1 then
  bd (fX1_addShape (hR g9 a0 8) (hR g9 (hR g9 a0 0) a1.toNatClampNeg) g9) (fun _ g15 =>
  if kc g15 (hR g15 a0 0) = 12 then
  if ix a2 (kl g15 (hR g15 a0 0)) then
  if kc g15 (hR g15 a0 8) = 1 then
  bd (fX1_addShape (hR g15 a0 8) (hR g15 (hR g15 a0 0) a2.toNatClampNeg) g15) (fun _ g21 =>
  bd (fX6_ontoPaper a0 (4 : Int32) g21) (fun w26 g24 =>
  some (w26, g24)))
  else none
  else none
  else none)
  else none
  else none
  else none)
  else none
  else none))))
theorem pX6_under_b14 {h0 : xH}    (a0 : Nat) (h : xH) : S emI kX6_under h0 14 [(0, .ref a0)] [] h (fX6_under_b14  a0 h) := by
  unfold fX6_under_b14
  refine s_aload_n (pc := 14) (k0 := 0) (i := 0) rfl 0 rfl (by decide +kernel) ?_
  refine s_bipush (pc := 15) (n := -2) (v := (-2 : Int32)) (by decide) (by decide +kernel) ?_
  refine S_gd (fun c1 => ?_)
  refine s_cVi (pc := 17) [.int (-2 : Int32)] (tX6_refuse a0 (-2 : Int32) h) c1 cw_X6_101 rfl ⟨⟨Nat.le_of_ble_eq_true rfl, Nat.le_of_ble_eq_true rfl⟩, Nat.le_of_ble_eq_true rfl⟩ rfl (by decide +kernel) (fun w4 g2 e3 => ?_)
  exact s_iret (pc := 20) rfl (by decide +kernel)
theorem pX6_under_e    (a0 : Nat) (a1 : Int32) (a2 : Int32) (h : xH) : S emI kX6_under h 0 [(0, .ref a0), (1, .int a1), (2, .int a2)] [] h (fX6_under  a0 a1 a2 h) := by
  unfold fX6_under
  refine s_iload_n (pc := 0) (k0 := 1) (i := 1) rfl 1 rfl (by decide +kernel) ?_
  refine s_cSi (pc := 1) [.int a1] (tX6_isStore a1 h) cw_X6_97 rfl ⟨⟨Nat.le_of_ble_eq_true rfl, Nat.le_of_ble_eq_true rfl⟩, Nat.le_of_ble_eq_true rfl⟩ rfl (by decide +kernel) (fun w3 g1 e2 => ?_)
  refine s_if_eq (pc := 4) (off := 10) 14 (by decide +kernel) (by decide) (fun _ => ?_) (fun _ => ?_)
  · refine S_sub [0] rfl ?_
    exact pX6_under_b14 a0 g1
  · refine s_iload_n (pc := 7) (k0 := 2) (i := 2) rfl 2 rfl (by decide +kernel) ?_
    refine s_cSi (pc := 8) [.int a2] (tX6_isStore a2 g1) cw_X6_97 rfl ⟨⟨Nat.le_of_ble_eq_true rfl, Nat.le_of_ble_eq_true rfl⟩, Nat.le_of_ble_eq_true rfl⟩ rfl (by decide +kernel) (fun w6 g4 e5 => ?_)
    refine s_if_ne (pc := 11) (off := 10) 21 (by decide +kernel) (by decide) (fun _ => ?_) (fun _ => ?_)
    · refine S_sub [0] rfl ?_
      exact pX6_under_b14 a0 g4
    · refine s_aload_n (pc := 21) (k0 := 0) (i := 0) rfl 0 rfl (by decide +kernel) ?_
      refine S_gd (fun c7 => ?_)
      refine s_getR (pc := 22) (k := 8) c7 ft_X6_58 rfl (by decide +kernel) ?_
      refine S_gd (fun c8 => ?_)
      refine s_cVv (pc := 25) [] (tX1_start (hR g4 a0 8) g4) c8 cw_X6_105 rfl ⟨⟨Nat.le_of_ble_eq_true rfl, Nat.le_of_ble_eq_true rfl⟩, Nat.le_of_ble_eq_true rfl⟩ rfl (by decide +kernel) (fun _ g9 e10 => ?_)
      refine s_aload_n (pc := 28) (k0 := 0) (i := 0) rfl 0 rfl (by decide +kernel) ?_
      have c11 := kp e10 c7 (by decide)
      refine s_getR (pc := 29) (k := 8) c11 ft_X6_58 rfl (by decide +kernel) ?_
      refine s_aload_n (pc := 32) (k0 := 0) (i := 0) rfl 0 rfl (by decide +kernel) ?_
      refine s_getR (pc := 33) (k := 0) c11 ft_X6_15 rfl (by decide +kernel) ?_
      refine s_iload_n (pc := 36) (k0 := 1) (i := 1) rfl 1 rfl (by decide +kernel) ?_
      refine S_gd (fun c12 => ?_)
      refine S_gd (fun c13 => ?_)
      refine s_aald (pc := 37) c12 c13 (by decide +kernel) ?_
      refine S_gd (fun c14 => ?_)
      refine s_cVv (pc := 38) [.ref (hR g9 (hR g9 a0 0) a1.toNatClampNeg)] (tX1_addShape (hR g9 a0 8) (hR g9 (hR g9 a0 0) a1.toNatClampNeg) g9) c14 cw_X6_158 rfl ⟨⟨Nat.le_of_ble_eq_true rfl, Nat.le_of_ble_eq_true rfl⟩, Nat.le_of_ble_eq_true rfl⟩ rfl (by decide +kernel) (fun _ g15 e16 => ?_)
      refine s_aload_n (pc := 41) (k0 := 0) (i := 0) rfl 0 rfl (by decide +kernel) ?_
      have c17 := kp e16 c11 (by decide)
      refine s_getR (pc := 42) (k := 8) c17 ft_X6_58 rfl (by decide +kernel) ?_
      refine s_aload_n (pc := 45) (k0 := 0) (i := 0) rfl 0 rfl (by decide +kernel) ?_
      refine s_getR (pc := 46) (k := 0) c17 ft_X6_15 rfl (by decide +kernel) ?_
      refine s_iload_n (pc := 49) (k0 := 2) (i := 2) rfl 2 rfl (by decide +kernel) ?_
      refine S_gd (fun c18 => ?_)
      refine S_gd (fun c19 => ?_)
      refine s_aald (pc := 50) c18 c19 (by decide +kernel) ?_
      refine S_gd (fun c20 => ?_)
      refine s_cVv (pc := 51) [.ref (hR g15 (hR g15 a0 0) a2.toNatClampNeg)] (tX1_addShape (hR g15 a0 8) (hR g15 (hR g15 a0 0) a2.toNatClampNeg) g15) c20 cw_X6_158 rfl ⟨⟨Nat.le_of_ble_eq_true rfl, Nat.le_of_ble_eq_true rfl⟩, Nat.le_of_ble_eq_true rfl⟩ rfl (by decide +kernel) (fun _ g21 e22 => ?_)
      refine s_aload_n (pc := 54) (k0 := 0) (i := 0) rfl 0 rfl (by decide +kernel) ?_
      refine s_iconst (pc := 55) (n := 4) (v := (4 : Int32)) (by decide) (by decide +kernel) ?_
      have c23 := kp e22 c17 (by decide)
      refine s_cVi (pc := 56) [.int (4 : Int32)] (tX6_ontoPaper a0 (4 : Int32) g21) c23 cw_X6_155 rfl ⟨⟨Nat.le_of_ble_eq_true rfl, Nat.le_of_ble_eq_true rfl⟩, Nat.le_of_ble_eq_true rfl⟩ rfl (by decide +kernel) (fun w26 g24 e25 => ?_)
      exact s_iret (pc := 59) rfl (by decide +kernel)
theorem tX6_under (a0 : Nat) (a1 : Int32) (a2 : Int32) (h : xH) : Ct yX6_under kX6_under emI [.ref a0, .int a1, .int a2] h (fX6_under a0 a1 a2 h) := Ct_of (by decide +kernel) rfl rfl rfl (Nat.le_of_ble_eq_true rfl) rfl (pX6_under_e a0 a1 a2 h)
def fX6_join_b14   (a0 : Nat) (h : xH) : Option (Int32 × xH) :=
  if kc h a0 = 6 then
  bd (fX6_refuse a0 (-2 : Int32) h) (fun w4 g2 =>
  some (w4, g2))
  else none
def fX6_join_b43 (r29 : Nat → Int32 → xH → Option (Int32 × xH)) (r43 : Nat → Int32 → Int32 → xH → Option (Int32 × xH))  (a0 : Nat) (a3 : Int32) (a4 : Int32) (h : xH) : Option (Int32 × xH) :=
  if kc h a0 = 6 then
  if kc h (hR h a0 10) = 1 then
  if (hI h (hR h a0 10) 0) ≤ a4 then (
  lt (a3 + (1 : Int32)) (fun v3 =>
  r29 a0 v3 h))
  else (
  if kc h (hR h a0 8) = 1 then
  bd (fX1_addJoined (hR h a0 8) (hR h a0 9) a3 (hR h a0 10) a4 h) (fun _ g5 =>
  lt (a4 + (1 : Int32)) (fun v7 =>
  r43 a0 a3 v7 g5))
  else none)
  else none
  else none
def fX6_join_l43 (r29 : Nat → Int32 → xH → Option (Int32 × xH)) : Nat → Nat → Int32 → Int32 → xH → Option (Int32 × xH)
  | 0 => fun _ _ _ _ => none
  | k + 1 => fX6_join_b43 r29 (fX6_join_l43 r29 k)
def fX6_join_b29 (r29 : Nat → Int32 → xH → Option (Int32 × xH))  (a0 : Nat) (a3 : Int32) (h : xH) : Option (Int32 × xH) :=
  if kc h a0 = 6 then
  if kc h (hR h a0 9) = 1 then
  if (hI h (hR h a0 9) 0) ≤ a3 then (
  bd (fX6_ontoPaper a0 (5 : Int32) h) (fun w5 g3 =>
  some (w5, g3)))
  else (
  lt (0 : Int32) (fun v6 =>
  fX6_join_l43 r29 FU a0 a3 v6 h))
  else none
  else none
def fX6_join_l29  : Nat → Nat → Int32 → xH → Option (Int32 × xH)
  | 0 => fun _ _ _ => none
  | k + 1 => fX6_join_b29 (fX6_join_l29  k)
def fX6_join   (a0 : Nat) (a1 : Int32) (a2 : Int32) (h : xH) : Option (Int32 × xH) :=
  bd (fX6_isStore a1 h) (fun w3 g1 =>
  if w3 = 0 then (
  fX6_join_b14 a0 g1)
  else (
  bd (fX6_isStore a2 g1) (fun w6 g4 =>
  if w6 = 0 then (
  fX6_join_b14 a0 g4)
  else (
  if kc g4 a0 = 6 then
  bd (fX6_loadPair a0 a1 a2 g4) (fun _ g8 =>
  lt (0 : Int32) (fun v10 =>
  fX6_join_l29 FU a0 v10 g8))
  else none))))
theorem pX6_join_b14 {h0 : xH}    (a0 : Nat) (h : xH) : S emI kX6_join h0 14 [(0, .ref a0)] [] h (fX6_join_b14  a0 h) := by
  unfold fX6_join_b14
  refine s_aload_n (pc := 14) (k0 := 0) (i := 0) rfl 0 rfl (by decide +kernel) ?_
  refine s_bipush (pc := 15) (n := -2) (v := (-2 : Int32)) (by decide) (by decide +kernel) ?_
  refine S_gd (fun c1 => ?_)
  refine s_cVi (pc := 17) [.int (-2 : Int32)] (tX6_refuse a0 (-2 : Int32) h) c1 cw_X6_101 rfl ⟨⟨Nat.le_of_ble_eq_true rfl, Nat.le_of_ble_eq_true rfl⟩, Nat.le_of_ble_eq_true rfl⟩ rfl (by decide +kernel) (fun w4 g2 e3 => ?_)
  exact s_iret (pc := 20) rfl (by decide +kernel)
theorem pX6_join_b43 {h0 : xH} {r29 : Nat → Int32 → xH → Option (Int32 × xH)} {r43 : Nat → Int32 → Int32 → xH → Option (Int32 × xH)} (hr29 : ∀  (a0 : Nat) (a3 : Int32) (g : xH), S emI kX6_join h0 29 [(0, .ref a0), (3, .int a3)] [] g (r29  a0 a3 g)) (hr43 : ∀  (a0 : Nat) (a3 : Int32) (a4 : Int32) (g : xH), S emI kX6_join h0 43 [(0, .ref a0), (3, .int a3), (4, .int a4)] [] g (r43  a0 a3 a4 g))  (a0 : Nat) (a3 : Int32) (a4 : Int32) (h : xH) : S emI kX6_join h0 43 [(0, .ref a0), (3, .int a3), (4, .int a4)] [] h (fX6_join_b43 r29 r43 a0 a3 a4 h) := by
  unfold fX6_join_b43
  refine s_iload (pc := 43) (i := 4) 2 rfl (by decide +kernel) ?_
  refine s_aload_n (pc := 45) (k0 := 0) (i := 0) rfl 0 rfl (by decide +kernel) ?_
  refine S_gd (fun c1 => ?_)
  refine s_getR (pc := 46) (k := 10) c1 ft_X6_65 rfl (by decide +kernel) ?_
  refine S_gd (fun c2 => ?_)
  refine s_getI (pc := 49) (k := 0) c2 ft_X6_148 rfl (by decide +kernel) ?_
  refine s_icmp_ge (pc := 52) (off := 27) 79 (by decide +kernel) (by decide) (fun _ => ?_) (fun _ => ?_)
  · refine s_iinc (pc := 79) (L' := [(3, .int (a3 + (1 : Int32))), (0, .ref a0), (4, .int a4)]) (i := 3) (n := 1) 1 rfl rfl (by decide) rfl (by decide +kernel) ?_
    refine s_nmI0 (e := a3 + (1 : Int32)) (L := fun v3 => [(3, .int v3), (0, .ref a0), (4, .int a4)]) (fun v3 => ?_)
    refine s_goto (pc := 82) (off := -53) 29 (by decide +kernel) (by decide) ?_
    refine S_sub [1, 0] rfl ?_
    exact hr29 a0 v3 h
  · refine s_aload_n (pc := 55) (k0 := 0) (i := 0) rfl 0 rfl (by decide +kernel) ?_
    refine s_getR (pc := 56) (k := 8) c1 ft_X6_58 rfl (by decide +kernel) ?_
    refine s_aload_n (pc := 59) (k0 := 0) (i := 0) rfl 0 rfl (by decide +kernel) ?_
    refine s_getR (pc := 60) (k := 9) c1 ft_X6_62 rfl (by decide +kernel) ?_
    refine s_iload_n (pc := 63) (k0 := 3) (i := 3) rfl 1 rfl (by decide +kernel) ?_
    refine s_aload_n (pc := 64) (k0 := 0) (i := 0) rfl 0 rfl (by decide +kernel) ?_
    refine s_getR (pc := 65) (k := 10) c1 ft_X6_65 rfl (by decide +kernel) ?_
    refine s_iload (pc := 68) (i := 4) 2 rfl (by decide +kernel) ?_
    refine S_gd (fun c4 => ?_)
    refine s_cVv (pc := 70) [.ref (hR h a0 9), .int a3, .ref (hR h a0 10), .int a4] (tX1_addJoined (hR h a0 8) (hR h a0 9) a3 (hR h a0 10) a4 h) c4 cw_X6_161 rfl ⟨⟨Nat.le_of_ble_eq_true rfl, Nat.le_of_ble_eq_true rfl⟩, Nat.le_of_ble_eq_true rfl⟩ rfl (by decide +kernel) (fun _ g5 e6 => ?_)
    refine s_iinc (pc := 73) (L' := [(4, .int (a4 + (1 : Int32))), (0, .ref a0), (3, .int a3)]) (i := 4) (n := 1) 2 rfl rfl (by decide) rfl (by decide +kernel) ?_
    refine s_nmI0 (e := a4 + (1 : Int32)) (L := fun v7 => [(4, .int v7), (0, .ref a0), (3, .int a3)]) (fun v7 => ?_)
    refine s_goto (pc := 76) (off := -33) 43 (by decide +kernel) (by decide) ?_
    refine S_sub [1, 2, 0] rfl ?_
    exact hr43 a0 a3 v7 g5
theorem pX6_join_l43 {h0 : xH} {r29 : Nat → Int32 → xH → Option (Int32 × xH)} (hr29 : ∀  (a0 : Nat) (a3 : Int32) (g : xH), S emI kX6_join h0 29 [(0, .ref a0), (3, .int a3)] [] g (r29  a0 a3 g)) : ∀ (k : Nat)  (a0 : Nat) (a3 : Int32) (a4 : Int32) (h : xH), S emI kX6_join h0 43 [(0, .ref a0), (3, .int a3), (4, .int a4)] [] h (fX6_join_l43 r29 k  a0 a3 a4 h) := by
  intro k
  induction k with
  | zero => intros; exact S_none
  | succ k ih => intro  a0 a3 a4 h; exact pX6_join_b43 hr29 ih  a0 a3 a4 h
theorem pX6_join_b29 {h0 : xH} {r29 : Nat → Int32 → xH → Option (Int32 × xH)} (hr29 : ∀  (a0 : Nat) (a3 : Int32) (g : xH), S emI kX6_join h0 29 [(0, .ref a0), (3, .int a3)] [] g (r29  a0 a3 g))  (a0 : Nat) (a3 : Int32) (h : xH) : S emI kX6_join h0 29 [(0, .ref a0), (3, .int a3)] [] h (fX6_join_b29 r29 a0 a3 h) := by
  unfold fX6_join_b29
  refine s_iload_n (pc := 29) (k0 := 3) (i := 3) rfl 1 rfl (by decide +kernel) ?_
  refine s_aload_n (pc := 30) (k0 := 0) (i := 0) rfl 0 rfl (by decide +kernel) ?_
  refine S_gd (fun c1 => ?_)
  refine s_getR (pc := 31) (k := 9) c1 ft_X6_62 rfl (by decide +kernel) ?_
  refine S_gd (fun c2 => ?_)
  refine s_getI (pc := 34) (k := 0) c2 ft_X6_148 rfl (by decide +kernel) ?_
  refine s_icmp_ge (pc := 37) (off := 48) 85 (by decide +kernel) (by decide) (fun _ => ?_) (fun _ => ?_)
  · refine s_aload_n (pc := 85) (k0 := 0) (i := 0) rfl 0 rfl (by decide +kernel) ?_
    refine s_iconst (pc := 86) (n := 5) (v := (5 : Int32)) (by decide) (by decide +kernel) ?_
    refine s_cVi (pc := 87) [.int (5 : Int32)] (tX6_ontoPaper a0 (5 : Int32) h) c1 cw_X6_155 rfl ⟨⟨Nat.le_of_ble_eq_true rfl, Nat.le_of_ble_eq_true rfl⟩, Nat.le_of_ble_eq_true rfl⟩ rfl (by decide +kernel) (fun w5 g3 e4 => ?_)
    exact s_iret (pc := 90) rfl (by decide +kernel)
  · refine s_iconst (pc := 40) (n := 0) (v := (0 : Int32)) (by decide) (by decide +kernel) ?_
    refine s_nmI (fun v6 => ?_)
    refine s_istore (pc := 41) (L' := [(4, .int v6), (0, .ref a0), (3, .int a3)]) (i := 4) (by decide) rfl (by decide +kernel) ?_
    refine S_sub [1, 2, 0] rfl ?_
    exact pX6_join_l43 hr29 FU a0 a3 v6 h
theorem pX6_join_l29 {h0 : xH}   : ∀ (k : Nat)  (a0 : Nat) (a3 : Int32) (h : xH), S emI kX6_join h0 29 [(0, .ref a0), (3, .int a3)] [] h (fX6_join_l29  k  a0 a3 h) := by
  intro k
  induction k with
  | zero => intros; exact S_none
  | succ k ih => intro  a0 a3 h; exact pX6_join_b29 ih  a0 a3 h
theorem pX6_join_e    (a0 : Nat) (a1 : Int32) (a2 : Int32) (h : xH) : S emI kX6_join h 0 [(0, .ref a0), (1, .int a1), (2, .int a2)] [] h (fX6_join  a0 a1 a2 h) := by
  unfold fX6_join
  refine s_iload_n (pc := 0) (k0 := 1) (i := 1) rfl 1 rfl (by decide +kernel) ?_
  refine s_cSi (pc := 1) [.int a1] (tX6_isStore a1 h) cw_X6_97 rfl ⟨⟨Nat.le_of_ble_eq_true rfl, Nat.le_of_ble_eq_true rfl⟩, Nat.le_of_ble_eq_true rfl⟩ rfl (by decide +kernel) (fun w3 g1 e2 => ?_)
  refine s_if_eq (pc := 4) (off := 10) 14 (by decide +kernel) (by decide) (fun _ => ?_) (fun _ => ?_)
  · refine S_sub [0] rfl ?_
    exact pX6_join_b14 a0 g1
  · refine s_iload_n (pc := 7) (k0 := 2) (i := 2) rfl 2 rfl (by decide +kernel) ?_
    refine s_cSi (pc := 8) [.int a2] (tX6_isStore a2 g1) cw_X6_97 rfl ⟨⟨Nat.le_of_ble_eq_true rfl, Nat.le_of_ble_eq_true rfl⟩, Nat.le_of_ble_eq_true rfl⟩ rfl (by decide +kernel) (fun w6 g4 e5 => ?_)
    refine s_if_ne (pc := 11) (off := 10) 21 (by decide +kernel) (by decide) (fun _ => ?_) (fun _ => ?_)
    · refine S_sub [0] rfl ?_
      exact pX6_join_b14 a0 g4
    · refine s_aload_n (pc := 21) (k0 := 0) (i := 0) rfl 0 rfl (by decide +kernel) ?_
      refine s_iload_n (pc := 22) (k0 := 1) (i := 1) rfl 1 rfl (by decide +kernel) ?_
      refine s_iload_n (pc := 23) (k0 := 2) (i := 2) rfl 2 rfl (by decide +kernel) ?_
      refine S_gd (fun c7 => ?_)
      refine s_cVv (pc := 24) [.int a1, .int a2] (tX6_loadPair a0 a1 a2 g4) c7 cw_X6_144 rfl ⟨⟨Nat.le_of_ble_eq_true rfl, Nat.le_of_ble_eq_true rfl⟩, Nat.le_of_ble_eq_true rfl⟩ rfl (by decide +kernel) (fun _ g8 e9 => ?_)
      refine s_iconst (pc := 27) (n := 0) (v := (0 : Int32)) (by decide) (by decide +kernel) ?_
      refine s_nmI (fun v10 => ?_)
      refine s_istore_n (pc := 28) (L' := [(3, .int v10), (0, .ref a0), (1, .int a1), (2, .int a2)]) (k0 := 3) (i := 3) rfl (by decide) rfl (by decide +kernel) ?_
      refine S_sub [1, 0] rfl ?_
      exact pX6_join_l29 FU a0 v10 g8
theorem tX6_join (a0 : Nat) (a1 : Int32) (a2 : Int32) (h : xH) : Ct yX6_join kX6_join emI [.ref a0, .int a1, .int a2] h (fX6_join a0 a1 a2 h) := Ct_of (by decide +kernel) rfl rfl rfl (Nat.le_of_ble_eq_true rfl) rfl (pX6_join_e a0 a1 a2 h)
def fX6_turn   (a0 : Nat) (a1 : Int32) (h : xH) : Option (Int32 × xH) :=
  bd (fX6_isStore a1 h) (fun w3 g1 =>
  if w3 = 0 then (
  if kc g1 a0 = 6 then
  bd (fX6_refuse a0 (-2 : Int32) g1) (fun w32 g30 =>
  some (w32, g30))
  else none)
  else (
  if kc g1 a0 = 6 then
  if kc g1 (hR g1 a0 0) = 12 then
  if ix a1 (kl g1 (hR g1 a0 0)) then
  if kc g1 (hR g1 (hR g1 a0 0) a1.toNatClampNeg) = 4 then
  bd (fX4_canBeTurned (hR g1 (hR g1 a0 0) a1.toNatClampNeg) g1) (fun w10 g8 =>
  if w10 = 0 then (
  bd (fX6_refuse a0 (-4 : Int32) g8) (fun w28 g26 =>
  some (w28, g26)))
  else (
  if kc g8 (hR g8 a0 8) = 1 then
  bd (fX1_start (hR g8 a0 8) g8) (fun _ g13 =>
  if kc g13 (hR g13 a0 0) = 12 then
  if ix a1 (kl g13 (hR g13 a0 0)) then
  if kc g13 (hR g13 a0 8) = 1 then
  bd (fX1_addTurned (hR g13 a0 8) (hR g13 (hR g13 a0 0) a1.toNatClampNeg) g13) (fun _ g19 =>
  bd (fX6_ontoPaper a0 (6 : Int32) g19) (fun w24 g22 =>
  some (w24, g22)))
  else none
  else none
  else none)
  else none))
  else none
  else none
  else none
  else none))
theorem pX6_turn_e    (a0 : Nat) (a1 : Int32) (h : xH) : S emI kX6_turn h 0 [(0, .ref a0), (1, .int a1)] [] h (fX6_turn  a0 a1 h) := by
  unfold fX6_turn
  refine s_iload_n (pc := 0) (k0 := 1) (i := 1) rfl 1 rfl (by decide +kernel) ?_
  refine s_cSi (pc := 1) [.int a1] (tX6_isStore a1 h) cw_X6_97 rfl ⟨⟨Nat.le_of_ble_eq_true rfl, Nat.le_of_ble_eq_true rfl⟩, Nat.le_of_ble_eq_true rfl⟩ rfl (by decide +kernel) (fun w3 g1 e2 => ?_)
  refine s_if_ne (pc := 4) (off := 10) 14 (by decide +kernel) (by decide) (fun _ => ?_) (fun _ => ?_)
  · refine s_aload_n (pc := 7) (k0 := 0) (i := 0) rfl 0 rfl (by decide +kernel) ?_
    refine s_bipush (pc := 8) (n := -2) (v := (-2 : Int32)) (by decide) (by decide +kernel) ?_
    refine S_gd (fun c29 => ?_)
    refine s_cVi (pc := 10) [.int (-2 : Int32)] (tX6_refuse a0 (-2 : Int32) g1) c29 cw_X6_101 rfl ⟨⟨Nat.le_of_ble_eq_true rfl, Nat.le_of_ble_eq_true rfl⟩, Nat.le_of_ble_eq_true rfl⟩ rfl (by decide +kernel) (fun w32 g30 e31 => ?_)
    exact s_iret (pc := 13) rfl (by decide +kernel)
  · refine s_aload_n (pc := 14) (k0 := 0) (i := 0) rfl 0 rfl (by decide +kernel) ?_
    refine S_gd (fun c4 => ?_)
    refine s_getR (pc := 15) (k := 0) c4 ft_X6_15 rfl (by decide +kernel) ?_
    refine s_iload_n (pc := 18) (k0 := 1) (i := 1) rfl 1 rfl (by decide +kernel) ?_
    refine S_gd (fun c5 => ?_)
    refine S_gd (fun c6 => ?_)
    refine s_aald (pc := 19) c5 c6 (by decide +kernel) ?_
    refine S_gd (fun c7 => ?_)
    refine s_cVi (pc := 20) [] (tX4_canBeTurned (hR g1 (hR g1 a0 0) a1.toNatClampNeg) g1) c7 cw_X6_164 rfl ⟨⟨Nat.le_of_ble_eq_true rfl, Nat.le_of_ble_eq_true rfl⟩, Nat.le_of_ble_eq_true rfl⟩ rfl (by decide +kernel) (fun w10 g8 e9 => ?_)
    refine s_if_ne (pc := 23) (off := 10) 33 (by decide +kernel) (by decide) (fun _ => ?_) (fun _ => ?_)
    · refine s_aload_n (pc := 26) (k0 := 0) (i := 0) rfl 0 rfl (by decide +kernel) ?_
      refine s_bipush (pc := 27) (n := -4) (v := (-4 : Int32)) (by decide) (by decide +kernel) ?_
      have c25 := kp e9 c4 (by decide)
      refine s_cVi (pc := 29) [.int (-4 : Int32)] (tX6_refuse a0 (-4 : Int32) g8) c25 cw_X6_101 rfl ⟨⟨Nat.le_of_ble_eq_true rfl, Nat.le_of_ble_eq_true rfl⟩, Nat.le_of_ble_eq_true rfl⟩ rfl (by decide +kernel) (fun w28 g26 e27 => ?_)
      exact s_iret (pc := 32) rfl (by decide +kernel)
    · refine s_aload_n (pc := 33) (k0 := 0) (i := 0) rfl 0 rfl (by decide +kernel) ?_
      have c11 := kp e9 c4 (by decide)
      refine s_getR (pc := 34) (k := 8) c11 ft_X6_58 rfl (by decide +kernel) ?_
      refine S_gd (fun c12 => ?_)
      refine s_cVv (pc := 37) [] (tX1_start (hR g8 a0 8) g8) c12 cw_X6_105 rfl ⟨⟨Nat.le_of_ble_eq_true rfl, Nat.le_of_ble_eq_true rfl⟩, Nat.le_of_ble_eq_true rfl⟩ rfl (by decide +kernel) (fun _ g13 e14 => ?_)
      refine s_aload_n (pc := 40) (k0 := 0) (i := 0) rfl 0 rfl (by decide +kernel) ?_
      have c15 := kp e14 c11 (by decide)
      refine s_getR (pc := 41) (k := 8) c15 ft_X6_58 rfl (by decide +kernel) ?_
      refine s_aload_n (pc := 44) (k0 := 0) (i := 0) rfl 0 rfl (by decide +kernel) ?_
      refine s_getR (pc := 45) (k := 0) c15 ft_X6_15 rfl (by decide +kernel) ?_
      refine s_iload_n (pc := 48) (k0 := 1) (i := 1) rfl 1 rfl (by decide +kernel) ?_
      refine S_gd (fun c16 => ?_)
      refine S_gd (fun c17 => ?_)
      refine s_aald (pc := 49) c16 c17 (by decide +kernel) ?_
      refine S_gd (fun c18 => ?_)
      refine s_cVv (pc := 50) [.ref (hR g13 (hR g13 a0 0) a1.toNatClampNeg)] (tX1_addTurned (hR g13 a0 8) (hR g13 (hR g13 a0 0) a1.toNatClampNeg) g13) c18 cw_X6_167 rfl ⟨⟨Nat.le_of_ble_eq_true rfl, Nat.le_of_ble_eq_true rfl⟩, Nat.le_of_ble_eq_true rfl⟩ rfl (by decide +kernel) (fun _ g19 e20 => ?_)
      refine s_aload_n (pc := 53) (k0 := 0) (i := 0) rfl 0 rfl (by decide +kernel) ?_
      refine s_bipush (pc := 54) (n := 6) (v := (6 : Int32)) (by decide) (by decide +kernel) ?_
      have c21 := kp e20 c15 (by decide)
      refine s_cVi (pc := 56) [.int (6 : Int32)] (tX6_ontoPaper a0 (6 : Int32) g19) c21 cw_X6_155 rfl ⟨⟨Nat.le_of_ble_eq_true rfl, Nat.le_of_ble_eq_true rfl⟩, Nat.le_of_ble_eq_true rfl⟩ rfl (by decide +kernel) (fun w24 g22 e23 => ?_)
      exact s_iret (pc := 59) rfl (by decide +kernel)
theorem tX6_turn (a0 : Nat) (a1 : Int32) (h : xH) : Ct yX6_turn kX6_turn emI [.ref a0, .int a1] h (fX6_turn a0 a1 h) := Ct_of (by decide +kernel) rfl rfl rfl (Nat.le_of_ble_eq_true rfl) rfl (pX6_turn_e a0 a1 h)
def fX6_hull   (a0 : Nat) (a1 : Int32) (h : xH) : Option (Int32 × xH) :=
  bd (fX6_isStore a1 h) (fun w3 g1 =>
  if w3 = 0 then (
  if kc g1 a0 = 6 then
  bd (fX6_refuse a0 (-2 : Int32) g1) (fun w21 g19 =>
  some (w21, g19))
  else none)
  else (
  if kc g1 a0 = 6 then
  if kc g1 (hR g1 a0 8) = 1 then
  bd (fX1_start (hR g1 a0 8) g1) (fun _ g6 =>
  if kc g6 (hR g6 a0 0) = 12 then
  if ix a1 (kl g6 (hR g6 a0 0)) then
  if kc g6 (hR g6 a0 8) = 1 then
  bd (fX1_addHull (hR g6 a0 8) (hR g6 (hR g6 a0 0) a1.toNatClampNeg) g6) (fun _ g12 =>
  bd (fX6_ontoPaper a0 (7 : Int32) g12) (fun w17 g15 =>
  some (w17, g15)))
  else none
  else none
  else none)
  else none
  else none))
theorem pX6_hull_e    (a0 : Nat) (a1 : Int32) (h : xH) : S emI kX6_hull h 0 [(0, .ref a0), (1, .int a1)] [] h (fX6_hull  a0 a1 h) := by
  unfold fX6_hull
  refine s_iload_n (pc := 0) (k0 := 1) (i := 1) rfl 1 rfl (by decide +kernel) ?_
  refine s_cSi (pc := 1) [.int a1] (tX6_isStore a1 h) cw_X6_97 rfl ⟨⟨Nat.le_of_ble_eq_true rfl, Nat.le_of_ble_eq_true rfl⟩, Nat.le_of_ble_eq_true rfl⟩ rfl (by decide +kernel) (fun w3 g1 e2 => ?_)
  refine s_if_ne (pc := 4) (off := 10) 14 (by decide +kernel) (by decide) (fun _ => ?_) (fun _ => ?_)
  · refine s_aload_n (pc := 7) (k0 := 0) (i := 0) rfl 0 rfl (by decide +kernel) ?_
    refine s_bipush (pc := 8) (n := -2) (v := (-2 : Int32)) (by decide) (by decide +kernel) ?_
    refine S_gd (fun c18 => ?_)
    refine s_cVi (pc := 10) [.int (-2 : Int32)] (tX6_refuse a0 (-2 : Int32) g1) c18 cw_X6_101 rfl ⟨⟨Nat.le_of_ble_eq_true rfl, Nat.le_of_ble_eq_true rfl⟩, Nat.le_of_ble_eq_true rfl⟩ rfl (by decide +kernel) (fun w21 g19 e20 => ?_)
    exact s_iret (pc := 13) rfl (by decide +kernel)
  · refine s_aload_n (pc := 14) (k0 := 0) (i := 0) rfl 0 rfl (by decide +kernel) ?_
    refine S_gd (fun c4 => ?_)
    refine s_getR (pc := 15) (k := 8) c4 ft_X6_58 rfl (by decide +kernel) ?_
    refine S_gd (fun c5 => ?_)
    refine s_cVv (pc := 18) [] (tX1_start (hR g1 a0 8) g1) c5 cw_X6_105 rfl ⟨⟨Nat.le_of_ble_eq_true rfl, Nat.le_of_ble_eq_true rfl⟩, Nat.le_of_ble_eq_true rfl⟩ rfl (by decide +kernel) (fun _ g6 e7 => ?_)
    refine s_aload_n (pc := 21) (k0 := 0) (i := 0) rfl 0 rfl (by decide +kernel) ?_
    have c8 := kp e7 c4 (by decide)
    refine s_getR (pc := 22) (k := 8) c8 ft_X6_58 rfl (by decide +kernel) ?_
    refine s_aload_n (pc := 25) (k0 := 0) (i := 0) rfl 0 rfl (by decide +kernel) ?_
    refine s_getR (pc := 26) (k := 0) c8 ft_X6_15 rfl (by decide +kernel) ?_
    refine s_iload_n (pc := 29) (k0 := 1) (i := 1) rfl 1 rfl (by decide +kernel) ?_
    refine S_gd (fun c9 => ?_)
    refine S_gd (fun c10 => ?_)
    refine s_aald (pc := 30) c9 c10 (by decide +kernel) ?_
    refine S_gd (fun c11 => ?_)
    refine s_cVv (pc := 31) [.ref (hR g6 (hR g6 a0 0) a1.toNatClampNeg)] (tX1_addHull (hR g6 a0 8) (hR g6 (hR g6 a0 0) a1.toNatClampNeg) g6) c11 cw_X6_170 rfl ⟨⟨Nat.le_of_ble_eq_true rfl, Nat.le_of_ble_eq_true rfl⟩, Nat.le_of_ble_eq_true rfl⟩ rfl (by decide +kernel) (fun _ g12 e13 => ?_)
    refine s_aload_n (pc := 34) (k0 := 0) (i := 0) rfl 0 rfl (by decide +kernel) ?_
    refine s_bipush (pc := 35) (n := 7) (v := (7 : Int32)) (by decide) (by decide +kernel) ?_
    have c14 := kp e13 c8 (by decide)
    refine s_cVi (pc := 37) [.int (7 : Int32)] (tX6_ontoPaper a0 (7 : Int32) g12) c14 cw_X6_155 rfl ⟨⟨Nat.le_of_ble_eq_true rfl, Nat.le_of_ble_eq_true rfl⟩, Nat.le_of_ble_eq_true rfl⟩ rfl (by decide +kernel) (fun w17 g15 e16 => ?_)
    exact s_iret (pc := 40) rfl (by decide +kernel)
theorem tX6_hull (a0 : Nat) (a1 : Int32) (h : xH) : Ct yX6_hull kX6_hull emI [.ref a0, .int a1] h (fX6_hull a0 a1 h) := Ct_of (by decide +kernel) rfl rfl rfl (Nat.le_of_ble_eq_true rfl) rfl (pX6_hull_e a0 a1 h)
def fX6_cut_b21   (a0 : Nat) (h : xH) : Option (Int32 × xH) :=
  if kc h a0 = 6 then
  bd (fX6_refuse a0 (-1 : Int32) h) (fun w4 g2 =>
  some (w4, g2))
  else none
def fX6_cut_b49 (r49 : Nat → Int32 → Int32 → Int32 → xH → Option (Int32 × xH))  (a0 : Nat) (a2 : Int32) (a3 : Int32) (a4 : Int32) (h : xH) : Option (Int32 × xH) :=
  if kc h a0 = 6 then
  if kc h (hR h a0 9) = 1 then
  if (hI h (hR h a0 9) 0) ≤ a4 then (
  bd (fX6_ontoPaper a0 (8 : Int32) h) (fun w5 g3 =>
  some (w5, g3)))
  else (
  if kc h (hR h a0 8) = 1 then
  bd (fX1_addCut (hR h a0 8) (hR h a0 9) a4 a2 a3 h) (fun _ g7 =>
  lt (a4 + (1 : Int32)) (fun v9 =>
  r49 a0 a2 a3 v9 g7))
  else none)
  else none
  else none
def fX6_cut_l49  : Nat → Nat → Int32 → Int32 → Int32 → xH → Option (Int32 × xH)
  | 0 => fun _ _ _ _ _ => none
  | k + 1 => fX6_cut_b49 (fX6_cut_l49  k)
def fX6_cut   (a0 : Nat) (a1 : Int32) (a2 : Int32) (a3 : Int32) (h : xH) : Option (Int32 × xH) :=
  bd (fX6_isPlace a2.toInt64 h) (fun w3 g1 =>
  if w3 = 0 then (
  fX6_cut_b21 a0 g1)
  else (
  bd (fX6_isPlace a3.toInt64 g1) (fun w6 g4 =>
  if w6 = 0 then (
  fX6_cut_b21 a0 g4)
  else (
  if a2 ≤ a3 then (
  bd (fX6_isStore a1 g4) (fun w9 g7 =>
  if w9 = 0 then (
  if kc g7 a0 = 6 then
  bd (fX6_refuse a0 (-2 : Int32) g7) (fun w17 g15 =>
  some (w17, g15))
  else none)
  else (
  if kc g7 a0 = 6 then
  bd (fX6_loadOne a0 a1 g7) (fun _ g11 =>
  lt (0 : Int32) (fun v13 =>
  fX6_cut_l49 FU a0 a2 a3 v13 g11))
  else none)))
  else (
  fX6_cut_b21 a0 g4)))))
theorem pX6_cut_b21 {h0 : xH}    (a0 : Nat) (h : xH) : S emI kX6_cut h0 21 [(0, .ref a0)] [] h (fX6_cut_b21  a0 h) := by
  unfold fX6_cut_b21
  refine s_aload_n (pc := 21) (k0 := 0) (i := 0) rfl 0 rfl (by decide +kernel) ?_
  refine s_iconst (pc := 22) (n := -1) (v := (-1 : Int32)) (by decide) (by decide +kernel) ?_
  refine S_gd (fun c1 => ?_)
  refine s_cVi (pc := 23) [.int (-1 : Int32)] (tX6_refuse a0 (-1 : Int32) h) c1 cw_X6_101 rfl ⟨⟨Nat.le_of_ble_eq_true rfl, Nat.le_of_ble_eq_true rfl⟩, Nat.le_of_ble_eq_true rfl⟩ rfl (by decide +kernel) (fun w4 g2 e3 => ?_)
  exact s_iret (pc := 26) rfl (by decide +kernel)
theorem pX6_cut_b49 {h0 : xH} {r49 : Nat → Int32 → Int32 → Int32 → xH → Option (Int32 × xH)} (hr49 : ∀  (a0 : Nat) (a2 : Int32) (a3 : Int32) (a4 : Int32) (g : xH), S emI kX6_cut h0 49 [(0, .ref a0), (2, .int a2), (3, .int a3), (4, .int a4)] [] g (r49  a0 a2 a3 a4 g))  (a0 : Nat) (a2 : Int32) (a3 : Int32) (a4 : Int32) (h : xH) : S emI kX6_cut h0 49 [(0, .ref a0), (2, .int a2), (3, .int a3), (4, .int a4)] [] h (fX6_cut_b49 r49 a0 a2 a3 a4 h) := by
  unfold fX6_cut_b49
  refine s_iload (pc := 49) (i := 4) 3 rfl (by decide +kernel) ?_
  refine s_aload_n (pc := 51) (k0 := 0) (i := 0) rfl 0 rfl (by decide +kernel) ?_
  refine S_gd (fun c1 => ?_)
  refine s_getR (pc := 52) (k := 9) c1 ft_X6_62 rfl (by decide +kernel) ?_
  refine S_gd (fun c2 => ?_)
  refine s_getI (pc := 55) (k := 0) c2 ft_X6_148 rfl (by decide +kernel) ?_
  refine s_icmp_ge (pc := 58) (off := 24) 82 (by decide +kernel) (by decide) (fun _ => ?_) (fun _ => ?_)
  · refine s_aload_n (pc := 82) (k0 := 0) (i := 0) rfl 0 rfl (by decide +kernel) ?_
    refine s_bipush (pc := 83) (n := 8) (v := (8 : Int32)) (by decide) (by decide +kernel) ?_
    refine s_cVi (pc := 85) [.int (8 : Int32)] (tX6_ontoPaper a0 (8 : Int32) h) c1 cw_X6_155 rfl ⟨⟨Nat.le_of_ble_eq_true rfl, Nat.le_of_ble_eq_true rfl⟩, Nat.le_of_ble_eq_true rfl⟩ rfl (by decide +kernel) (fun w5 g3 e4 => ?_)
    exact s_iret (pc := 88) rfl (by decide +kernel)
  · refine s_aload_n (pc := 61) (k0 := 0) (i := 0) rfl 0 rfl (by decide +kernel) ?_
    refine s_getR (pc := 62) (k := 8) c1 ft_X6_58 rfl (by decide +kernel) ?_
    refine s_aload_n (pc := 65) (k0 := 0) (i := 0) rfl 0 rfl (by decide +kernel) ?_
    refine s_getR (pc := 66) (k := 9) c1 ft_X6_62 rfl (by decide +kernel) ?_
    refine s_iload (pc := 69) (i := 4) 3 rfl (by decide +kernel) ?_
    refine s_iload_n (pc := 71) (k0 := 2) (i := 2) rfl 1 rfl (by decide +kernel) ?_
    refine s_iload_n (pc := 72) (k0 := 3) (i := 3) rfl 2 rfl (by decide +kernel) ?_
    refine S_gd (fun c6 => ?_)
    refine s_cVv (pc := 73) [.ref (hR h a0 9), .int a4, .int a2, .int a3] (tX1_addCut (hR h a0 8) (hR h a0 9) a4 a2 a3 h) c6 cw_X6_176 rfl ⟨⟨Nat.le_of_ble_eq_true rfl, Nat.le_of_ble_eq_true rfl⟩, Nat.le_of_ble_eq_true rfl⟩ rfl (by decide +kernel) (fun _ g7 e8 => ?_)
    refine s_iinc (pc := 76) (L' := [(4, .int (a4 + (1 : Int32))), (0, .ref a0), (2, .int a2), (3, .int a3)]) (i := 4) (n := 1) 3 rfl rfl (by decide) rfl (by decide +kernel) ?_
    refine s_nmI0 (e := a4 + (1 : Int32)) (L := fun v9 => [(4, .int v9), (0, .ref a0), (2, .int a2), (3, .int a3)]) (fun v9 => ?_)
    refine s_goto (pc := 79) (off := -30) 49 (by decide +kernel) (by decide) ?_
    refine S_sub [1, 2, 3, 0] rfl ?_
    exact hr49 a0 a2 a3 v9 g7
theorem pX6_cut_l49 {h0 : xH}   : ∀ (k : Nat)  (a0 : Nat) (a2 : Int32) (a3 : Int32) (a4 : Int32) (h : xH), S emI kX6_cut h0 49 [(0, .ref a0), (2, .int a2), (3, .int a3), (4, .int a4)] [] h (fX6_cut_l49  k  a0 a2 a3 a4 h) := by
  intro k
  induction k with
  | zero => intros; exact S_none
  | succ k ih => intro  a0 a2 a3 a4 h; exact pX6_cut_b49 ih  a0 a2 a3 a4 h
theorem pX6_cut_e    (a0 : Nat) (a1 : Int32) (a2 : Int32) (a3 : Int32) (h : xH) : S emI kX6_cut h 0 [(0, .ref a0), (1, .int a1), (2, .int a2), (3, .int a3)] [] h (fX6_cut  a0 a1 a2 a3 h) := by
  unfold fX6_cut
  refine s_iload_n (pc := 0) (k0 := 2) (i := 2) rfl 2 rfl (by decide +kernel) ?_
  refine s_i2l (pc := 1) (by decide +kernel) ?_
  refine s_cSi (pc := 2) [.long a2.toInt64] (tX6_isPlace a2.toInt64 h) cw_X6_123 rfl ⟨⟨Nat.le_of_ble_eq_true rfl, Nat.le_of_ble_eq_true rfl⟩, Nat.le_of_ble_eq_true rfl⟩ rfl (by decide +kernel) (fun w3 g1 e2 => ?_)
  refine s_if_eq (pc := 5) (off := 16) 21 (by decide +kernel) (by decide) (fun _ => ?_) (fun _ => ?_)
  · refine S_sub [0] rfl ?_
    exact pX6_cut_b21 a0 g1
  · refine s_iload_n (pc := 8) (k0 := 3) (i := 3) rfl 3 rfl (by decide +kernel) ?_
    refine s_i2l (pc := 9) (by decide +kernel) ?_
    refine s_cSi (pc := 10) [.long a3.toInt64] (tX6_isPlace a3.toInt64 g1) cw_X6_123 rfl ⟨⟨Nat.le_of_ble_eq_true rfl, Nat.le_of_ble_eq_true rfl⟩, Nat.le_of_ble_eq_true rfl⟩ rfl (by decide +kernel) (fun w6 g4 e5 => ?_)
    refine s_if_eq (pc := 13) (off := 8) 21 (by decide +kernel) (by decide) (fun _ => ?_) (fun _ => ?_)
    · refine S_sub [0] rfl ?_
      exact pX6_cut_b21 a0 g4
    · refine s_iload_n (pc := 16) (k0 := 2) (i := 2) rfl 2 rfl (by decide +kernel) ?_
      refine s_iload_n (pc := 17) (k0 := 3) (i := 3) rfl 3 rfl (by decide +kernel) ?_
      refine s_icmp_le (pc := 18) (off := 9) 27 (by decide +kernel) (by decide) (fun _ => ?_) (fun _ => ?_)
      · refine s_iload_n (pc := 27) (k0 := 1) (i := 1) rfl 1 rfl (by decide +kernel) ?_
        refine s_cSi (pc := 28) [.int a1] (tX6_isStore a1 g4) cw_X6_97 rfl ⟨⟨Nat.le_of_ble_eq_true rfl, Nat.le_of_ble_eq_true rfl⟩, Nat.le_of_ble_eq_true rfl⟩ rfl (by decide +kernel) (fun w9 g7 e8 => ?_)
        refine s_if_ne (pc := 31) (off := 10) 41 (by decide +kernel) (by decide) (fun _ => ?_) (fun _ => ?_)
        · refine s_aload_n (pc := 34) (k0 := 0) (i := 0) rfl 0 rfl (by decide +kernel) ?_
          refine s_bipush (pc := 35) (n := -2) (v := (-2 : Int32)) (by decide) (by decide +kernel) ?_
          refine S_gd (fun c14 => ?_)
          refine s_cVi (pc := 37) [.int (-2 : Int32)] (tX6_refuse a0 (-2 : Int32) g7) c14 cw_X6_101 rfl ⟨⟨Nat.le_of_ble_eq_true rfl, Nat.le_of_ble_eq_true rfl⟩, Nat.le_of_ble_eq_true rfl⟩ rfl (by decide +kernel) (fun w17 g15 e16 => ?_)
          exact s_iret (pc := 40) rfl (by decide +kernel)
        · refine s_aload_n (pc := 41) (k0 := 0) (i := 0) rfl 0 rfl (by decide +kernel) ?_
          refine s_iload_n (pc := 42) (k0 := 1) (i := 1) rfl 1 rfl (by decide +kernel) ?_
          refine S_gd (fun c10 => ?_)
          refine s_cVv (pc := 43) [.int a1] (tX6_loadOne a0 a1 g7) c10 cw_X6_173 rfl ⟨⟨Nat.le_of_ble_eq_true rfl, Nat.le_of_ble_eq_true rfl⟩, Nat.le_of_ble_eq_true rfl⟩ rfl (by decide +kernel) (fun _ g11 e12 => ?_)
          refine s_iconst (pc := 46) (n := 0) (v := (0 : Int32)) (by decide) (by decide +kernel) ?_
          refine s_nmI (fun v13 => ?_)
          refine s_istore (pc := 47) (L' := [(4, .int v13), (0, .ref a0), (1, .int a1), (2, .int a2), (3, .int a3)]) (i := 4) (by decide) rfl (by decide +kernel) ?_
          refine S_sub [1, 3, 4, 0] rfl ?_
          exact pX6_cut_l49 FU a0 a2 a3 v13 g11
      · refine S_sub [0] rfl ?_
        exact pX6_cut_b21 a0 g4
theorem tX6_cut (a0 : Nat) (a1 : Int32) (a2 : Int32) (a3 : Int32) (h : xH) : Ct yX6_cut kX6_cut emI [.ref a0, .int a1, .int a2, .int a3] h (fX6_cut a0 a1 a2 a3 h) := Ct_of (by decide +kernel) rfl rfl rfl (Nat.le_of_ble_eq_true rfl) rfl (pX6_cut_e a0 a1 a2 a3 h)
def fX6_move_b16   (a0 : Nat) (h : xH) : Option (Int32 × xH) :=
  if kc h a0 = 6 then
  bd (fX6_refuse a0 (-1 : Int32) h) (fun w4 g2 =>
  some (w4, g2))
  else none
def fX6_move_b44 (r44 : Nat → Int32 → Int32 → Int32 → xH → Option (Int32 × xH))  (a0 : Nat) (a2 : Int32) (a3 : Int32) (a4 : Int32) (h : xH) : Option (Int32 × xH) :=
  if kc h a0 = 6 then
  if kc h (hR h a0 9) = 1 then
  if (hI h (hR h a0 9) 0) ≤ a4 then (
  bd (fX6_ontoPaper a0 (9 : Int32) h) (fun w5 g3 =>
  some (w5, g3)))
  else (
  if kc h (hR h a0 8) = 1 then
  bd (fX1_addMoved (hR h a0 8) (hR h a0 9) a4 a2 a3 h) (fun _ g7 =>
  lt (a4 + (1 : Int32)) (fun v9 =>
  r44 a0 a2 a3 v9 g7))
  else none)
  else none
  else none
def fX6_move_l44  : Nat → Nat → Int32 → Int32 → Int32 → xH → Option (Int32 × xH)
  | 0 => fun _ _ _ _ _ => none
  | k + 1 => fX6_move_b44 (fX6_move_l44  k)
def fX6_move   (a0 : Nat) (a1 : Int32) (a2 : Int32) (a3 : Int32) (h : xH) : Option (Int32 × xH) :=
  bd (fX6_isPlace a2.toInt64 h) (fun w3 g1 =>
  if w3 = 0 then (
  fX6_move_b16 a0 g1)
  else (
  bd (fX6_isPlace a3.toInt64 g1) (fun w6 g4 =>
  if w6 = 0 then (
  fX6_move_b16 a0 g4)
  else (
  bd (fX6_isStore a1 g4) (fun w9 g7 =>
  if w9 = 0 then (
  if kc g7 a0 = 6 then
  bd (fX6_refuse a0 (-2 : Int32) g7) (fun w17 g15 =>
  some (w17, g15))
  else none)
  else (
  if kc g7 a0 = 6 then
  bd (fX6_loadOne a0 a1 g7) (fun _ g11 =>
  lt (0 : Int32) (fun v13 =>
  fX6_move_l44 FU a0 a2 a3 v13 g11))
  else none))))))
theorem pX6_move_b16 {h0 : xH}    (a0 : Nat) (h : xH) : S emI kX6_move h0 16 [(0, .ref a0)] [] h (fX6_move_b16  a0 h) := by
  unfold fX6_move_b16
  refine s_aload_n (pc := 16) (k0 := 0) (i := 0) rfl 0 rfl (by decide +kernel) ?_
  refine s_iconst (pc := 17) (n := -1) (v := (-1 : Int32)) (by decide) (by decide +kernel) ?_
  refine S_gd (fun c1 => ?_)
  refine s_cVi (pc := 18) [.int (-1 : Int32)] (tX6_refuse a0 (-1 : Int32) h) c1 cw_X6_101 rfl ⟨⟨Nat.le_of_ble_eq_true rfl, Nat.le_of_ble_eq_true rfl⟩, Nat.le_of_ble_eq_true rfl⟩ rfl (by decide +kernel) (fun w4 g2 e3 => ?_)
  exact s_iret (pc := 21) rfl (by decide +kernel)
theorem pX6_move_b44 {h0 : xH} {r44 : Nat → Int32 → Int32 → Int32 → xH → Option (Int32 × xH)} (hr44 : ∀  (a0 : Nat) (a2 : Int32) (a3 : Int32) (a4 : Int32) (g : xH), S emI kX6_move h0 44 [(0, .ref a0), (2, .int a2), (3, .int a3), (4, .int a4)] [] g (r44  a0 a2 a3 a4 g))  (a0 : Nat) (a2 : Int32) (a3 : Int32) (a4 : Int32) (h : xH) : S emI kX6_move h0 44 [(0, .ref a0), (2, .int a2), (3, .int a3), (4, .int a4)] [] h (fX6_move_b44 r44 a0 a2 a3 a4 h) := by
  unfold fX6_move_b44
  refine s_iload (pc := 44) (i := 4) 3 rfl (by decide +kernel) ?_
  refine s_aload_n (pc := 46) (k0 := 0) (i := 0) rfl 0 rfl (by decide +kernel) ?_
  refine S_gd (fun c1 => ?_)
  refine s_getR (pc := 47) (k := 9) c1 ft_X6_62 rfl (by decide +kernel) ?_
  refine S_gd (fun c2 => ?_)
  refine s_getI (pc := 50) (k := 0) c2 ft_X6_148 rfl (by decide +kernel) ?_
  refine s_icmp_ge (pc := 53) (off := 24) 77 (by decide +kernel) (by decide) (fun _ => ?_) (fun _ => ?_)
  · refine s_aload_n (pc := 77) (k0 := 0) (i := 0) rfl 0 rfl (by decide +kernel) ?_
    refine s_bipush (pc := 78) (n := 9) (v := (9 : Int32)) (by decide) (by decide +kernel) ?_
    refine s_cVi (pc := 80) [.int (9 : Int32)] (tX6_ontoPaper a0 (9 : Int32) h) c1 cw_X6_155 rfl ⟨⟨Nat.le_of_ble_eq_true rfl, Nat.le_of_ble_eq_true rfl⟩, Nat.le_of_ble_eq_true rfl⟩ rfl (by decide +kernel) (fun w5 g3 e4 => ?_)
    exact s_iret (pc := 83) rfl (by decide +kernel)
  · refine s_aload_n (pc := 56) (k0 := 0) (i := 0) rfl 0 rfl (by decide +kernel) ?_
    refine s_getR (pc := 57) (k := 8) c1 ft_X6_58 rfl (by decide +kernel) ?_
    refine s_aload_n (pc := 60) (k0 := 0) (i := 0) rfl 0 rfl (by decide +kernel) ?_
    refine s_getR (pc := 61) (k := 9) c1 ft_X6_62 rfl (by decide +kernel) ?_
    refine s_iload (pc := 64) (i := 4) 3 rfl (by decide +kernel) ?_
    refine s_iload_n (pc := 66) (k0 := 2) (i := 2) rfl 1 rfl (by decide +kernel) ?_
    refine s_iload_n (pc := 67) (k0 := 3) (i := 3) rfl 2 rfl (by decide +kernel) ?_
    refine S_gd (fun c6 => ?_)
    refine s_cVv (pc := 68) [.ref (hR h a0 9), .int a4, .int a2, .int a3] (tX1_addMoved (hR h a0 8) (hR h a0 9) a4 a2 a3 h) c6 cw_X6_180 rfl ⟨⟨Nat.le_of_ble_eq_true rfl, Nat.le_of_ble_eq_true rfl⟩, Nat.le_of_ble_eq_true rfl⟩ rfl (by decide +kernel) (fun _ g7 e8 => ?_)
    refine s_iinc (pc := 71) (L' := [(4, .int (a4 + (1 : Int32))), (0, .ref a0), (2, .int a2), (3, .int a3)]) (i := 4) (n := 1) 3 rfl rfl (by decide) rfl (by decide +kernel) ?_
    refine s_nmI0 (e := a4 + (1 : Int32)) (L := fun v9 => [(4, .int v9), (0, .ref a0), (2, .int a2), (3, .int a3)]) (fun v9 => ?_)
    refine s_goto (pc := 74) (off := -30) 44 (by decide +kernel) (by decide) ?_
    refine S_sub [1, 2, 3, 0] rfl ?_
    exact hr44 a0 a2 a3 v9 g7
theorem pX6_move_l44 {h0 : xH}   : ∀ (k : Nat)  (a0 : Nat) (a2 : Int32) (a3 : Int32) (a4 : Int32) (h : xH), S emI kX6_move h0 44 [(0, .ref a0), (2, .int a2), (3, .int a3), (4, .int a4)] [] h (fX6_move_l44  k  a0 a2 a3 a4 h) := by
  intro k
  induction k with
  | zero => intros; exact S_none
  | succ k ih => intro  a0 a2 a3 a4 h; exact pX6_move_b44 ih  a0 a2 a3 a4 h
theorem pX6_move_e    (a0 : Nat) (a1 : Int32) (a2 : Int32) (a3 : Int32) (h : xH) : S emI kX6_move h 0 [(0, .ref a0), (1, .int a1), (2, .int a2), (3, .int a3)] [] h (fX6_move  a0 a1 a2 a3 h) := by
  unfold fX6_move
  refine s_iload_n (pc := 0) (k0 := 2) (i := 2) rfl 2 rfl (by decide +kernel) ?_
  refine s_i2l (pc := 1) (by decide +kernel) ?_
  refine s_cSi (pc := 2) [.long a2.toInt64] (tX6_isPlace a2.toInt64 h) cw_X6_123 rfl ⟨⟨Nat.le_of_ble_eq_true rfl, Nat.le_of_ble_eq_true rfl⟩, Nat.le_of_ble_eq_true rfl⟩ rfl (by decide +kernel) (fun w3 g1 e2 => ?_)
  refine s_if_eq (pc := 5) (off := 11) 16 (by decide +kernel) (by decide) (fun _ => ?_) (fun _ => ?_)
  · refine S_sub [0] rfl ?_
    exact pX6_move_b16 a0 g1
  · refine s_iload_n (pc := 8) (k0 := 3) (i := 3) rfl 3 rfl (by decide +kernel) ?_
    refine s_i2l (pc := 9) (by decide +kernel) ?_
    refine s_cSi (pc := 10) [.long a3.toInt64] (tX6_isPlace a3.toInt64 g1) cw_X6_123 rfl ⟨⟨Nat.le_of_ble_eq_true rfl, Nat.le_of_ble_eq_true rfl⟩, Nat.le_of_ble_eq_true rfl⟩ rfl (by decide +kernel) (fun w6 g4 e5 => ?_)
    refine s_if_ne (pc := 13) (off := 9) 22 (by decide +kernel) (by decide) (fun _ => ?_) (fun _ => ?_)
    · refine S_sub [0] rfl ?_
      exact pX6_move_b16 a0 g4
    · refine s_iload_n (pc := 22) (k0 := 1) (i := 1) rfl 1 rfl (by decide +kernel) ?_
      refine s_cSi (pc := 23) [.int a1] (tX6_isStore a1 g4) cw_X6_97 rfl ⟨⟨Nat.le_of_ble_eq_true rfl, Nat.le_of_ble_eq_true rfl⟩, Nat.le_of_ble_eq_true rfl⟩ rfl (by decide +kernel) (fun w9 g7 e8 => ?_)
      refine s_if_ne (pc := 26) (off := 10) 36 (by decide +kernel) (by decide) (fun _ => ?_) (fun _ => ?_)
      · refine s_aload_n (pc := 29) (k0 := 0) (i := 0) rfl 0 rfl (by decide +kernel) ?_
        refine s_bipush (pc := 30) (n := -2) (v := (-2 : Int32)) (by decide) (by decide +kernel) ?_
        refine S_gd (fun c14 => ?_)
        refine s_cVi (pc := 32) [.int (-2 : Int32)] (tX6_refuse a0 (-2 : Int32) g7) c14 cw_X6_101 rfl ⟨⟨Nat.le_of_ble_eq_true rfl, Nat.le_of_ble_eq_true rfl⟩, Nat.le_of_ble_eq_true rfl⟩ rfl (by decide +kernel) (fun w17 g15 e16 => ?_)
        exact s_iret (pc := 35) rfl (by decide +kernel)
      · refine s_aload_n (pc := 36) (k0 := 0) (i := 0) rfl 0 rfl (by decide +kernel) ?_
        refine s_iload_n (pc := 37) (k0 := 1) (i := 1) rfl 1 rfl (by decide +kernel) ?_
        refine S_gd (fun c10 => ?_)
        refine s_cVv (pc := 38) [.int a1] (tX6_loadOne a0 a1 g7) c10 cw_X6_173 rfl ⟨⟨Nat.le_of_ble_eq_true rfl, Nat.le_of_ble_eq_true rfl⟩, Nat.le_of_ble_eq_true rfl⟩ rfl (by decide +kernel) (fun _ g11 e12 => ?_)
        refine s_iconst (pc := 41) (n := 0) (v := (0 : Int32)) (by decide) (by decide +kernel) ?_
        refine s_nmI (fun v13 => ?_)
        refine s_istore (pc := 42) (L' := [(4, .int v13), (0, .ref a0), (1, .int a1), (2, .int a2), (3, .int a3)]) (i := 4) (by decide) rfl (by decide +kernel) ?_
        refine S_sub [1, 3, 4, 0] rfl ?_
        exact pX6_move_l44 FU a0 a2 a3 v13 g11
theorem tX6_move (a0 : Nat) (a1 : Int32) (a2 : Int32) (a3 : Int32) (h : xH) : Ct yX6_move kX6_move emI [.ref a0, .int a1, .int a2, .int a3] h (fX6_move a0 a1 a2 a3 h) := Ct_of (by decide +kernel) rfl rfl rfl (Nat.le_of_ble_eq_true rfl) rfl (pX6_move_e a0 a1 a2 a3 h)
def fX6_times_b10   (a0 : Nat) (h : xH) : Option (Int32 × xH) :=
  if kc h a0 = 6 then
  bd (fX6_refuse a0 (-1 : Int32) h) (fun w4 g2 =>
  some (w4, g2))
  else none
def fX6_times_b37 (r37 : Nat → Int32 → Int32 → xH → Option (Int32 × xH))  (a0 : Nat) (a2 : Int32) (a3 : Int32) (h : xH) : Option (Int32 × xH) :=
  if kc h a0 = 6 then
  if kc h (hR h a0 9) = 1 then
  if (hI h (hR h a0 9) 0) ≤ a3 then (
  bd (fX6_ontoPaper a0 (10 : Int32) h) (fun w5 g3 =>
  some (w5, g3)))
  else (
  if kc h (hR h a0 8) = 1 then
  bd (fX1_addMultiple (hR h a0 8) (hR h a0 9) a3 a2 h) (fun _ g7 =>
  lt (a3 + (1 : Int32)) (fun v9 =>
  r37 a0 a2 v9 g7))
  else none)
  else none
  else none
def fX6_times_l37  : Nat → Nat → Int32 → Int32 → xH → Option (Int32 × xH)
  | 0 => fun _ _ _ _ => none
  | k + 1 => fX6_times_b37 (fX6_times_l37  k)
def fX6_times   (a0 : Nat) (a1 : Int32) (a2 : Int32) (h : xH) : Option (Int32 × xH) :=
  if a2 < 0 then (
  fX6_times_b10 a0 h)
  else (
  if a2 ≤ (60 : Int32) then (
  bd (fX6_isStore a1 h) (fun w3 g1 =>
  if w3 = 0 then (
  if kc g1 a0 = 6 then
  bd (fX6_refuse a0 (-2 : Int32) g1) (fun w11 g9 =>
  some (w11, g9))
  else none)
  else (
  if kc g1 a0 = 6 then
  bd (fX6_loadOne a0 a1 g1) (fun _ g5 =>
  lt (0 : Int32) (fun v7 =>
  fX6_times_l37 FU a0 a2 v7 g5))
  else none)))
  else (
  fX6_times_b10 a0 h))
theorem pX6_times_b10 {h0 : xH}    (a0 : Nat) (h : xH) : S emI kX6_times h0 10 [(0, .ref a0)] [] h (fX6_times_b10  a0 h) := by
  unfold fX6_times_b10
  refine s_aload_n (pc := 10) (k0 := 0) (i := 0) rfl 0 rfl (by decide +kernel) ?_
  refine s_iconst (pc := 11) (n := -1) (v := (-1 : Int32)) (by decide) (by decide +kernel) ?_
  refine S_gd (fun c1 => ?_)
  refine s_cVi (pc := 12) [.int (-1 : Int32)] (tX6_refuse a0 (-1 : Int32) h) c1 cw_X6_101 rfl ⟨⟨Nat.le_of_ble_eq_true rfl, Nat.le_of_ble_eq_true rfl⟩, Nat.le_of_ble_eq_true rfl⟩ rfl (by decide +kernel) (fun w4 g2 e3 => ?_)
  exact s_iret (pc := 15) rfl (by decide +kernel)
theorem pX6_times_b37 {h0 : xH} {r37 : Nat → Int32 → Int32 → xH → Option (Int32 × xH)} (hr37 : ∀  (a0 : Nat) (a2 : Int32) (a3 : Int32) (g : xH), S emI kX6_times h0 37 [(0, .ref a0), (2, .int a2), (3, .int a3)] [] g (r37  a0 a2 a3 g))  (a0 : Nat) (a2 : Int32) (a3 : Int32) (h : xH) : S emI kX6_times h0 37 [(0, .ref a0), (2, .int a2), (3, .int a3)] [] h (fX6_times_b37 r37 a0 a2 a3 h) := by
  unfold fX6_times_b37
  refine s_iload_n (pc := 37) (k0 := 3) (i := 3) rfl 2 rfl (by decide +kernel) ?_
  refine s_aload_n (pc := 38) (k0 := 0) (i := 0) rfl 0 rfl (by decide +kernel) ?_
  refine S_gd (fun c1 => ?_)
  refine s_getR (pc := 39) (k := 9) c1 ft_X6_62 rfl (by decide +kernel) ?_
  refine S_gd (fun c2 => ?_)
  refine s_getI (pc := 42) (k := 0) c2 ft_X6_148 rfl (by decide +kernel) ?_
  refine s_icmp_ge (pc := 45) (off := 22) 67 (by decide +kernel) (by decide) (fun _ => ?_) (fun _ => ?_)
  · refine s_aload_n (pc := 67) (k0 := 0) (i := 0) rfl 0 rfl (by decide +kernel) ?_
    refine s_bipush (pc := 68) (n := 10) (v := (10 : Int32)) (by decide) (by decide +kernel) ?_
    refine s_cVi (pc := 70) [.int (10 : Int32)] (tX6_ontoPaper a0 (10 : Int32) h) c1 cw_X6_155 rfl ⟨⟨Nat.le_of_ble_eq_true rfl, Nat.le_of_ble_eq_true rfl⟩, Nat.le_of_ble_eq_true rfl⟩ rfl (by decide +kernel) (fun w5 g3 e4 => ?_)
    exact s_iret (pc := 73) rfl (by decide +kernel)
  · refine s_aload_n (pc := 48) (k0 := 0) (i := 0) rfl 0 rfl (by decide +kernel) ?_
    refine s_getR (pc := 49) (k := 8) c1 ft_X6_58 rfl (by decide +kernel) ?_
    refine s_aload_n (pc := 52) (k0 := 0) (i := 0) rfl 0 rfl (by decide +kernel) ?_
    refine s_getR (pc := 53) (k := 9) c1 ft_X6_62 rfl (by decide +kernel) ?_
    refine s_iload_n (pc := 56) (k0 := 3) (i := 3) rfl 2 rfl (by decide +kernel) ?_
    refine s_iload_n (pc := 57) (k0 := 2) (i := 2) rfl 1 rfl (by decide +kernel) ?_
    refine S_gd (fun c6 => ?_)
    refine s_cVv (pc := 58) [.ref (hR h a0 9), .int a3, .int a2] (tX1_addMultiple (hR h a0 8) (hR h a0 9) a3 a2 h) c6 cw_X6_183 rfl ⟨⟨Nat.le_of_ble_eq_true rfl, Nat.le_of_ble_eq_true rfl⟩, Nat.le_of_ble_eq_true rfl⟩ rfl (by decide +kernel) (fun _ g7 e8 => ?_)
    refine s_iinc (pc := 61) (L' := [(3, .int (a3 + (1 : Int32))), (0, .ref a0), (2, .int a2)]) (i := 3) (n := 1) 2 rfl rfl (by decide) rfl (by decide +kernel) ?_
    refine s_nmI0 (e := a3 + (1 : Int32)) (L := fun v9 => [(3, .int v9), (0, .ref a0), (2, .int a2)]) (fun v9 => ?_)
    refine s_goto (pc := 64) (off := -27) 37 (by decide +kernel) (by decide) ?_
    refine S_sub [1, 2, 0] rfl ?_
    exact hr37 a0 a2 v9 g7
theorem pX6_times_l37 {h0 : xH}   : ∀ (k : Nat)  (a0 : Nat) (a2 : Int32) (a3 : Int32) (h : xH), S emI kX6_times h0 37 [(0, .ref a0), (2, .int a2), (3, .int a3)] [] h (fX6_times_l37  k  a0 a2 a3 h) := by
  intro k
  induction k with
  | zero => intros; exact S_none
  | succ k ih => intro  a0 a2 a3 h; exact pX6_times_b37 ih  a0 a2 a3 h
theorem pX6_times_e    (a0 : Nat) (a1 : Int32) (a2 : Int32) (h : xH) : S emI kX6_times h 0 [(0, .ref a0), (1, .int a1), (2, .int a2)] [] h (fX6_times  a0 a1 a2 h) := by
  unfold fX6_times
  refine s_iload_n (pc := 0) (k0 := 2) (i := 2) rfl 2 rfl (by decide +kernel) ?_
  refine s_if_lt (pc := 1) (off := 9) 10 (by decide +kernel) (by decide) (fun _ => ?_) (fun _ => ?_)
  · refine S_sub [0] rfl ?_
    exact pX6_times_b10 a0 h
  · refine s_iload_n (pc := 4) (k0 := 2) (i := 2) rfl 2 rfl (by decide +kernel) ?_
    refine s_bipush (pc := 5) (n := 60) (v := (60 : Int32)) (by decide) (by decide +kernel) ?_
    refine s_icmp_le (pc := 7) (off := 9) 16 (by decide +kernel) (by decide) (fun _ => ?_) (fun _ => ?_)
    · refine s_iload_n (pc := 16) (k0 := 1) (i := 1) rfl 1 rfl (by decide +kernel) ?_
      refine s_cSi (pc := 17) [.int a1] (tX6_isStore a1 h) cw_X6_97 rfl ⟨⟨Nat.le_of_ble_eq_true rfl, Nat.le_of_ble_eq_true rfl⟩, Nat.le_of_ble_eq_true rfl⟩ rfl (by decide +kernel) (fun w3 g1 e2 => ?_)
      refine s_if_ne (pc := 20) (off := 10) 30 (by decide +kernel) (by decide) (fun _ => ?_) (fun _ => ?_)
      · refine s_aload_n (pc := 23) (k0 := 0) (i := 0) rfl 0 rfl (by decide +kernel) ?_
        refine s_bipush (pc := 24) (n := -2) (v := (-2 : Int32)) (by decide) (by decide +kernel) ?_
        refine S_gd (fun c8 => ?_)
        refine s_cVi (pc := 26) [.int (-2 : Int32)] (tX6_refuse a0 (-2 : Int32) g1) c8 cw_X6_101 rfl ⟨⟨Nat.le_of_ble_eq_true rfl, Nat.le_of_ble_eq_true rfl⟩, Nat.le_of_ble_eq_true rfl⟩ rfl (by decide +kernel) (fun w11 g9 e10 => ?_)
        exact s_iret (pc := 29) rfl (by decide +kernel)
      · refine s_aload_n (pc := 30) (k0 := 0) (i := 0) rfl 0 rfl (by decide +kernel) ?_
        refine s_iload_n (pc := 31) (k0 := 1) (i := 1) rfl 1 rfl (by decide +kernel) ?_
        refine S_gd (fun c4 => ?_)
        refine s_cVv (pc := 32) [.int a1] (tX6_loadOne a0 a1 g1) c4 cw_X6_173 rfl ⟨⟨Nat.le_of_ble_eq_true rfl, Nat.le_of_ble_eq_true rfl⟩, Nat.le_of_ble_eq_true rfl⟩ rfl (by decide +kernel) (fun _ g5 e6 => ?_)
        refine s_iconst (pc := 35) (n := 0) (v := (0 : Int32)) (by decide) (by decide +kernel) ?_
        refine s_nmI (fun v7 => ?_)
        refine s_istore_n (pc := 36) (L' := [(3, .int v7), (0, .ref a0), (1, .int a1), (2, .int a2)]) (k0 := 3) (i := 3) rfl (by decide) rfl (by decide +kernel) ?_
        refine S_sub [1, 3, 0] rfl ?_
        exact pX6_times_l37 FU a0 a2 v7 g5
    · refine S_sub [0] rfl ?_
      exact pX6_times_b10 a0 h
theorem tX6_times (a0 : Nat) (a1 : Int32) (a2 : Int32) (h : xH) : Ct yX6_times kX6_times emI [.ref a0, .int a1, .int a2] h (fX6_times a0 a1 a2 h) := Ct_of (by decide +kernel) rfl rfl rfl (Nat.le_of_ble_eq_true rfl) rfl (pX6_times_e a0 a1 a2 h)
def fX6_lay   (a0 : Nat) (a1 : Int32) (h : xH) : Option (Int32 × xH) :=
  bd (fX6_isStore a1 h) (fun w3 g1 =>
  if w3 = 0 then (
  if kc g1 a0 = 6 then
  bd (fX6_refuse a0 (-2 : Int32) g1) (fun w17 g15 =>
  some (w17, g15))
  else none)
  else (
  if kc g1 a0 = 6 then
  if kc g1 (hR g1 a0 0) = 12 then
  if ix a1 (kl g1 (hR g1 a0 0)) then
  if kc g1 (hR g1 a0 1) = 4 then
  bd (fX4_copyOf (hR g1 a0 1) (hR g1 (hR g1 a0 0) a1.toNatClampNeg) g1) (fun _ g8 =>
  bd (fX6_settle a0 (11 : Int32) (6 : Int32) g8) (fun w13 g11 =>
  some (w13, g11)))
  else none
  else none
  else none
  else none))
theorem pX6_lay_e    (a0 : Nat) (a1 : Int32) (h : xH) : S emI kX6_lay h 0 [(0, .ref a0), (1, .int a1)] [] h (fX6_lay  a0 a1 h) := by
  unfold fX6_lay
  refine s_iload_n (pc := 0) (k0 := 1) (i := 1) rfl 1 rfl (by decide +kernel) ?_
  refine s_cSi (pc := 1) [.int a1] (tX6_isStore a1 h) cw_X6_97 rfl ⟨⟨Nat.le_of_ble_eq_true rfl, Nat.le_of_ble_eq_true rfl⟩, Nat.le_of_ble_eq_true rfl⟩ rfl (by decide +kernel) (fun w3 g1 e2 => ?_)
  refine s_if_ne (pc := 4) (off := 10) 14 (by decide +kernel) (by decide) (fun _ => ?_) (fun _ => ?_)
  · refine s_aload_n (pc := 7) (k0 := 0) (i := 0) rfl 0 rfl (by decide +kernel) ?_
    refine s_bipush (pc := 8) (n := -2) (v := (-2 : Int32)) (by decide) (by decide +kernel) ?_
    refine S_gd (fun c14 => ?_)
    refine s_cVi (pc := 10) [.int (-2 : Int32)] (tX6_refuse a0 (-2 : Int32) g1) c14 cw_X6_101 rfl ⟨⟨Nat.le_of_ble_eq_true rfl, Nat.le_of_ble_eq_true rfl⟩, Nat.le_of_ble_eq_true rfl⟩ rfl (by decide +kernel) (fun w17 g15 e16 => ?_)
    exact s_iret (pc := 13) rfl (by decide +kernel)
  · refine s_aload_n (pc := 14) (k0 := 0) (i := 0) rfl 0 rfl (by decide +kernel) ?_
    refine S_gd (fun c4 => ?_)
    refine s_getR (pc := 15) (k := 1) c4 ft_X6_20 rfl (by decide +kernel) ?_
    refine s_aload_n (pc := 18) (k0 := 0) (i := 0) rfl 0 rfl (by decide +kernel) ?_
    refine s_getR (pc := 19) (k := 0) c4 ft_X6_15 rfl (by decide +kernel) ?_
    refine s_iload_n (pc := 22) (k0 := 1) (i := 1) rfl 1 rfl (by decide +kernel) ?_
    refine S_gd (fun c5 => ?_)
    refine S_gd (fun c6 => ?_)
    refine s_aald (pc := 23) c5 c6 (by decide +kernel) ?_
    refine S_gd (fun c7 => ?_)
    refine s_cVv (pc := 24) [.ref (hR g1 (hR g1 a0 0) a1.toNatClampNeg)] (tX4_copyOf (hR g1 a0 1) (hR g1 (hR g1 a0 0) a1.toNatClampNeg) g1) c7 cw_X6_141 rfl ⟨⟨Nat.le_of_ble_eq_true rfl, Nat.le_of_ble_eq_true rfl⟩, Nat.le_of_ble_eq_true rfl⟩ rfl (by decide +kernel) (fun _ g8 e9 => ?_)
    refine s_aload_n (pc := 27) (k0 := 0) (i := 0) rfl 0 rfl (by decide +kernel) ?_
    refine s_bipush (pc := 28) (n := 11) (v := (11 : Int32)) (by decide) (by decide +kernel) ?_
    refine s_bipush (pc := 30) (n := 6) (v := (6 : Int32)) (by decide) (by decide +kernel) ?_
    have c10 := kp e9 c4 (by decide)
    refine s_cVi (pc := 32) [.int (11 : Int32), .int (6 : Int32)] (tX6_settle a0 (11 : Int32) (6 : Int32) g8) c10 cw_X6_116 rfl ⟨⟨Nat.le_of_ble_eq_true rfl, Nat.le_of_ble_eq_true rfl⟩, Nat.le_of_ble_eq_true rfl⟩ rfl (by decide +kernel) (fun w13 g11 e12 => ?_)
    exact s_iret (pc := 35) rfl (by decide +kernel)
theorem tX6_lay (a0 : Nat) (a1 : Int32) (h : xH) : Ct yX6_lay kX6_lay emI [.ref a0, .int a1] h (fX6_lay a0 a1 h) := Ct_of (by decide +kernel) rfl rfl rfl (Nat.le_of_ble_eq_true rfl) rfl (pX6_lay_e a0 a1 h)
def fX6_put   (a0 : Nat) (a1 : Int32) (h : xH) : Option (Int32 × xH) :=
  bd (fX6_isStore a1 h) (fun w3 g1 =>
  if w3 = 0 then (
  if kc g1 a0 = 6 then
  bd (fX6_refuse a0 (-2 : Int32) g1) (fun w28 g26 =>
  some (w28, g26))
  else none)
  else (
  if kc g1 a0 = 6 then
  if kc g1 (hR g1 a0 0) = 12 then
  if ix (6 : Int32) (kl g1 (hR g1 a0 0)) then
  if kc g1 (hR g1 (hR g1 a0 0) (6 : Int32).toNatClampNeg) = 4 then
  bd (fX4_fitsStore (hR g1 (hR g1 a0 0) (6 : Int32).toNatClampNeg) g1) (fun w10 g8 =>
  if w10 = 0 then (
  bd (fX6_refuse a0 (-5 : Int32) g8) (fun w24 g22 =>
  some (w24, g22)))
  else (
  if kc g8 (hR g8 a0 0) = 12 then
  if ix (6 : Int32) (kl g8 (hR g8 a0 0)) then
  if kc g8 (hR g8 a0 1) = 4 then
  bd (fX4_copyOf (hR g8 a0 1) (hR g8 (hR g8 a0 0) (6 : Int32).toNatClampNeg) g8) (fun _ g15 =>
  bd (fX6_settle a0 (12 : Int32) a1 g15) (fun w20 g18 =>
  some (w20, g18)))
  else none
  else none
  else none))
  else none
  else none
  else none
  else none))
theorem pX6_put_e    (a0 : Nat) (a1 : Int32) (h : xH) : S emI kX6_put h 0 [(0, .ref a0), (1, .int a1)] [] h (fX6_put  a0 a1 h) := by
  unfold fX6_put
  refine s_iload_n (pc := 0) (k0 := 1) (i := 1) rfl 1 rfl (by decide +kernel) ?_
  refine s_cSi (pc := 1) [.int a1] (tX6_isStore a1 h) cw_X6_97 rfl ⟨⟨Nat.le_of_ble_eq_true rfl, Nat.le_of_ble_eq_true rfl⟩, Nat.le_of_ble_eq_true rfl⟩ rfl (by decide +kernel) (fun w3 g1 e2 => ?_)
  refine s_if_ne (pc := 4) (off := 10) 14 (by decide +kernel) (by decide) (fun _ => ?_) (fun _ => ?_)
  · refine s_aload_n (pc := 7) (k0 := 0) (i := 0) rfl 0 rfl (by decide +kernel) ?_
    refine s_bipush (pc := 8) (n := -2) (v := (-2 : Int32)) (by decide) (by decide +kernel) ?_
    refine S_gd (fun c25 => ?_)
    refine s_cVi (pc := 10) [.int (-2 : Int32)] (tX6_refuse a0 (-2 : Int32) g1) c25 cw_X6_101 rfl ⟨⟨Nat.le_of_ble_eq_true rfl, Nat.le_of_ble_eq_true rfl⟩, Nat.le_of_ble_eq_true rfl⟩ rfl (by decide +kernel) (fun w28 g26 e27 => ?_)
    exact s_iret (pc := 13) rfl (by decide +kernel)
  · refine s_aload_n (pc := 14) (k0 := 0) (i := 0) rfl 0 rfl (by decide +kernel) ?_
    refine S_gd (fun c4 => ?_)
    refine s_getR (pc := 15) (k := 0) c4 ft_X6_15 rfl (by decide +kernel) ?_
    refine s_bipush (pc := 18) (n := 6) (v := (6 : Int32)) (by decide) (by decide +kernel) ?_
    refine S_gd (fun c5 => ?_)
    refine S_gd (fun c6 => ?_)
    refine s_aald (pc := 20) c5 c6 (by decide +kernel) ?_
    refine S_gd (fun c7 => ?_)
    refine s_cVi (pc := 21) [] (tX4_fitsStore (hR g1 (hR g1 a0 0) (6 : Int32).toNatClampNeg) g1) c7 cw_X6_137 rfl ⟨⟨Nat.le_of_ble_eq_true rfl, Nat.le_of_ble_eq_true rfl⟩, Nat.le_of_ble_eq_true rfl⟩ rfl (by decide +kernel) (fun w10 g8 e9 => ?_)
    refine s_if_ne (pc := 24) (off := 10) 34 (by decide +kernel) (by decide) (fun _ => ?_) (fun _ => ?_)
    · refine s_aload_n (pc := 27) (k0 := 0) (i := 0) rfl 0 rfl (by decide +kernel) ?_
      refine s_bipush (pc := 28) (n := -5) (v := (-5 : Int32)) (by decide) (by decide +kernel) ?_
      have c21 := kp e9 c4 (by decide)
      refine s_cVi (pc := 30) [.int (-5 : Int32)] (tX6_refuse a0 (-5 : Int32) g8) c21 cw_X6_101 rfl ⟨⟨Nat.le_of_ble_eq_true rfl, Nat.le_of_ble_eq_true rfl⟩, Nat.le_of_ble_eq_true rfl⟩ rfl (by decide +kernel) (fun w24 g22 e23 => ?_)
      exact s_iret (pc := 33) rfl (by decide +kernel)
    · refine s_aload_n (pc := 34) (k0 := 0) (i := 0) rfl 0 rfl (by decide +kernel) ?_
      have c11 := kp e9 c4 (by decide)
      refine s_getR (pc := 35) (k := 1) c11 ft_X6_20 rfl (by decide +kernel) ?_
      refine s_aload_n (pc := 38) (k0 := 0) (i := 0) rfl 0 rfl (by decide +kernel) ?_
      refine s_getR (pc := 39) (k := 0) c11 ft_X6_15 rfl (by decide +kernel) ?_
      refine s_bipush (pc := 42) (n := 6) (v := (6 : Int32)) (by decide) (by decide +kernel) ?_
      refine S_gd (fun c12 => ?_)
      refine S_gd (fun c13 => ?_)
      refine s_aald (pc := 44) c12 c13 (by decide +kernel) ?_
      refine S_gd (fun c14 => ?_)
      refine s_cVv (pc := 45) [.ref (hR g8 (hR g8 a0 0) (6 : Int32).toNatClampNeg)] (tX4_copyOf (hR g8 a0 1) (hR g8 (hR g8 a0 0) (6 : Int32).toNatClampNeg) g8) c14 cw_X6_141 rfl ⟨⟨Nat.le_of_ble_eq_true rfl, Nat.le_of_ble_eq_true rfl⟩, Nat.le_of_ble_eq_true rfl⟩ rfl (by decide +kernel) (fun _ g15 e16 => ?_)
      refine s_aload_n (pc := 48) (k0 := 0) (i := 0) rfl 0 rfl (by decide +kernel) ?_
      refine s_bipush (pc := 49) (n := 12) (v := (12 : Int32)) (by decide) (by decide +kernel) ?_
      refine s_iload_n (pc := 51) (k0 := 1) (i := 1) rfl 1 rfl (by decide +kernel) ?_
      have c17 := kp e16 c11 (by decide)
      refine s_cVi (pc := 52) [.int (12 : Int32), .int a1] (tX6_settle a0 (12 : Int32) a1 g15) c17 cw_X6_116 rfl ⟨⟨Nat.le_of_ble_eq_true rfl, Nat.le_of_ble_eq_true rfl⟩, Nat.le_of_ble_eq_true rfl⟩ rfl (by decide +kernel) (fun w20 g18 e19 => ?_)
      exact s_iret (pc := 55) rfl (by decide +kernel)
theorem tX6_put (a0 : Nat) (a1 : Int32) (h : xH) : Ct yX6_put kX6_put emI [.ref a0, .int a1] h (fX6_put a0 a1 h) := Ct_of (by decide +kernel) rfl rfl rfl (Nat.le_of_ble_eq_true rfl) rfl (pX6_put_e a0 a1 h)
def fX6_undo   (a0 : Nat) (h : xH) : Option (Int32 × xH) :=
  if kc h a0 = 6 then
  if kc h (hR h a0 2) = 0 then
  if (hI h (hR h a0 2) 0) = 0 then (
  bd (fX6_refuse a0 (-4 : Int32) h) (fun w25 g23 =>
  some (w25, g23)))
  else (
  bd (fX0_latestSlot (hR h a0 2) h) (fun w5 g3 =>
  if kc g3 (hR g3 a0 0) = 12 then
  if ix w5 (kl g3 (hR g3 a0 0)) then
  if kc g3 (hR g3 a0 2) = 0 then
  bd (fX0_takeBack (hR g3 a0 2) (hR g3 (hR g3 a0 0) w5.toNatClampNeg) g3) (fun w12 g10 =>
  if kc g10 w12 = 4 then
  if kc g10 (hR g3 a0 0) = 12 then
  if ix w5 (kl g10 (hR g3 a0 0)) then
  lt (sR g10 (hR g3 a0 0) w5.toNatClampNeg w12) (fun g16 =>
  lt (sI g16 a0 6 (0 : Int32)) (fun g19 =>
  if kc g19 (hR g19 a0 2) = 0 then
  some ((hI g19 (hR g19 a0 2) 1), g19)
  else none))
  else none
  else none
  else none)
  else none
  else none
  else none))
  else none
  else none
theorem pX6_undo_e    (a0 : Nat) (h : xH) : S emI kX6_undo h 0 [(0, .ref a0)] [] h (fX6_undo  a0 h) := by
  unfold fX6_undo
  refine s_aload_n (pc := 0) (k0 := 0) (i := 0) rfl 0 rfl (by decide +kernel) ?_
  refine S_gd (fun c1 => ?_)
  refine s_getR (pc := 1) (k := 2) c1 ft_X6_27 rfl (by decide +kernel) ?_
  refine S_gd (fun c2 => ?_)
  refine s_getI (pc := 4) (k := 0) c2 ft_X6_191 rfl (by decide +kernel) ?_
  refine s_if_ne (pc := 7) (off := 10) 17 (by decide +kernel) (by decide) (fun _ => ?_) (fun _ => ?_)
  · refine s_aload_n (pc := 10) (k0 := 0) (i := 0) rfl 0 rfl (by decide +kernel) ?_
    refine s_bipush (pc := 11) (n := -4) (v := (-4 : Int32)) (by decide) (by decide +kernel) ?_
    refine s_cVi (pc := 13) [.int (-4 : Int32)] (tX6_refuse a0 (-4 : Int32) h) c1 cw_X6_101 rfl ⟨⟨Nat.le_of_ble_eq_true rfl, Nat.le_of_ble_eq_true rfl⟩, Nat.le_of_ble_eq_true rfl⟩ rfl (by decide +kernel) (fun w25 g23 e24 => ?_)
    exact s_iret (pc := 16) rfl (by decide +kernel)
  · refine s_aload_n (pc := 17) (k0 := 0) (i := 0) rfl 0 rfl (by decide +kernel) ?_
    refine s_getR (pc := 18) (k := 2) c1 ft_X6_27 rfl (by decide +kernel) ?_
    refine s_cVi (pc := 21) [] (tX0_latestSlot (hR h a0 2) h) c2 cw_X6_192 rfl ⟨⟨Nat.le_of_ble_eq_true rfl, Nat.le_of_ble_eq_true rfl⟩, Nat.le_of_ble_eq_true rfl⟩ rfl (by decide +kernel) (fun w5 g3 e4 => ?_)
    refine s_istore_n (pc := 24) (L' := [(1, .int w5), (0, .ref a0)]) (k0 := 1) (i := 1) rfl (by decide) rfl (by decide +kernel) ?_
    refine s_aload_n (pc := 25) (k0 := 0) (i := 0) rfl 1 rfl (by decide +kernel) ?_
    have c6 := kp e4 c1 (by decide)
    refine s_getR (pc := 26) (k := 0) c6 ft_X6_15 rfl (by decide +kernel) ?_
    refine s_iload_n (pc := 29) (k0 := 1) (i := 1) rfl 0 rfl (by decide +kernel) ?_
    refine s_aload_n (pc := 30) (k0 := 0) (i := 0) rfl 1 rfl (by decide +kernel) ?_
    refine s_getR (pc := 31) (k := 2) c6 ft_X6_27 rfl (by decide +kernel) ?_
    refine s_aload_n (pc := 34) (k0 := 0) (i := 0) rfl 1 rfl (by decide +kernel) ?_
    refine s_getR (pc := 35) (k := 0) c6 ft_X6_15 rfl (by decide +kernel) ?_
    refine s_iload_n (pc := 38) (k0 := 1) (i := 1) rfl 0 rfl (by decide +kernel) ?_
    refine S_gd (fun c7 => ?_)
    refine S_gd (fun c8 => ?_)
    refine s_aald (pc := 39) c7 c8 (by decide +kernel) ?_
    refine S_gd (fun c9 => ?_)
    refine s_cVr (pc := 40) [.ref (hR g3 (hR g3 a0 0) w5.toNatClampNeg)] (tX0_takeBack (hR g3 a0 2) (hR g3 (hR g3 a0 0) w5.toNatClampNeg) g3) c9 cw_X6_196 rfl ⟨⟨Nat.le_of_ble_eq_true rfl, Nat.le_of_ble_eq_true rfl⟩, Nat.le_of_ble_eq_true rfl⟩ rfl (by decide +kernel) (fun w12 g10 e11 => ?_)
    refine S_gd (fun c13 => ?_)
    refine S_gd (fun c14 => ?_)
    refine S_gd (fun c15 => ?_)
    refine s_aast (pc := 43) c13 c14 c15 (by decide +kernel) ?_
    refine s_nmH (o := g10) rfl (fun g16 e17 => ?_)
    refine s_aload_n (pc := 44) (k0 := 0) (i := 0) rfl 1 rfl (by decide +kernel) ?_
    refine s_iconst (pc := 45) (n := 0) (v := (0 : Int32)) (by decide) (by decide +kernel) ?_
    have c18 := kp (Le.tr e11 e17) c6 (by decide)
    refine s_putI (pc := 46) (k := 6) c18 ft_X6_45 (fw_6_6 _ _) rfl rfl (by decide +kernel) ?_
    refine s_nmH (o := g16) rfl (fun g19 e20 => ?_)
    refine s_aload_n (pc := 49) (k0 := 0) (i := 0) rfl 1 rfl (by decide +kernel) ?_
    have c21 := kp e20 c18 (by decide)
    refine s_getR (pc := 50) (k := 2) c21 ft_X6_27 rfl (by decide +kernel) ?_
    refine S_gd (fun c22 => ?_)
    refine s_getI (pc := 53) (k := 1) c22 ft_X6_200 rfl (by decide +kernel) ?_
    exact s_iret (pc := 56) rfl (by decide +kernel)
theorem tX6_undo (a0 : Nat) (h : xH) : Ct yX6_undo kX6_undo emI [.ref a0] h (fX6_undo a0 h) := Ct_of (by decide +kernel) rfl rfl rfl (Nat.le_of_ble_eq_true rfl) rfl (pX6_undo_e a0 h)
def fX6_isImage   (a0 : Int32) (h : xH) : Option (Int32 × xH) :=
  if a0 < 0 then (
  some ((0 : Int32), h))
  else (
  if (2 : Int32) ≤ a0 then (
  some ((0 : Int32), h))
  else (
  some ((1 : Int32), h)))
theorem pX6_isImage_e    (a0 : Int32) (h : xH) : S emI kX6_isImage h 0 [(0, .int a0)] [] h (fX6_isImage  a0 h) := by
  unfold fX6_isImage
  refine s_iload_n (pc := 0) (k0 := 0) (i := 0) rfl 0 rfl (by decide +kernel) ?_
  refine s_if_lt (pc := 1) (off := 12) 13 (by decide +kernel) (by decide) (fun _ => ?_) (fun _ => ?_)
  · refine s_iconst (pc := 13) (n := 0) (v := (0 : Int32)) (by decide) (by decide +kernel) ?_
    exact s_zret (pc := 14) (by decide) rfl (by decide +kernel)
  · refine s_iload_n (pc := 4) (k0 := 0) (i := 0) rfl 0 rfl (by decide +kernel) ?_
    refine s_iconst (pc := 5) (n := 2) (v := (2 : Int32)) (by decide) (by decide +kernel) ?_
    refine s_icmp_ge (pc := 6) (off := 7) 13 (by decide +kernel) (by decide) (fun _ => ?_) (fun _ => ?_)
    · refine s_iconst (pc := 13) (n := 0) (v := (0 : Int32)) (by decide) (by decide +kernel) ?_
      exact s_zret (pc := 14) (by decide) rfl (by decide +kernel)
    · refine s_iconst (pc := 9) (n := 1) (v := (1 : Int32)) (by decide) (by decide +kernel) ?_
      refine s_goto (pc := 10) (off := 4) 14 (by decide +kernel) (by decide) ?_
      exact s_zret (pc := 14) (by decide) rfl (by decide +kernel)
theorem tX6_isImage (a0 : Int32) (h : xH) : Ct yX6_isImage kX6_isImage emI [.int a0] h (fX6_isImage a0 h) := Ct_of (by decide +kernel) rfl rfl rfl (Nat.le_of_ble_eq_true rfl) rfl (pX6_isImage_e a0 h)
def fX6_storeKnots_b4 (r4 : Nat → Int32 → Int32 → xH → Option (Int32 × xH))  (a0 : Nat) (a1 : Int32) (a2 : Int32) (h : xH) : Option (Int32 × xH) :=
  if (6 : Int32) ≤ a2 then (
  some (a1, h))
  else (
  if kc h a0 = 6 then
  if kc h (hR h a0 0) = 12 then
  if ix a2 (kl h (hR h a0 0)) then
  if kc h (hR h (hR h a0 0) a2.toNatClampNeg) = 4 then
  lt (a1 + (hI h (hR h (hR h a0 0) a2.toNatClampNeg) 0)) (fun v5 =>
  lt (a2 + (1 : Int32)) (fun v6 =>
  r4 a0 v5 v6 h))
  else none
  else none
  else none
  else none)
def fX6_storeKnots_l4  : Nat → Nat → Int32 → Int32 → xH → Option (Int32 × xH)
  | 0 => fun _ _ _ _ => none
  | k + 1 => fX6_storeKnots_b4 (fX6_storeKnots_l4  k)
def fX6_storeKnots   (a0 : Nat) (h : xH) : Option (Int32 × xH) :=
  lt (0 : Int32) (fun v1 =>
  lt (0 : Int32) (fun v2 =>
  fX6_storeKnots_l4 FU a0 v1 v2 h))
theorem pX6_storeKnots_b4 {h0 : xH} {r4 : Nat → Int32 → Int32 → xH → Option (Int32 × xH)} (hr4 : ∀  (a0 : Nat) (a1 : Int32) (a2 : Int32) (g : xH), S emI kX6_storeKnots h0 4 [(0, .ref a0), (1, .int a1), (2, .int a2)] [] g (r4  a0 a1 a2 g))  (a0 : Nat) (a1 : Int32) (a2 : Int32) (h : xH) : S emI kX6_storeKnots h0 4 [(0, .ref a0), (1, .int a1), (2, .int a2)] [] h (fX6_storeKnots_b4 r4 a0 a1 a2 h) := by
  unfold fX6_storeKnots_b4
  refine s_iload_n (pc := 4) (k0 := 2) (i := 2) rfl 2 rfl (by decide +kernel) ?_
  refine s_bipush (pc := 5) (n := 6) (v := (6 : Int32)) (by decide) (by decide +kernel) ?_
  refine s_icmp_ge (pc := 7) (off := 21) 28 (by decide +kernel) (by decide) (fun _ => ?_) (fun _ => ?_)
  · refine s_iload_n (pc := 28) (k0 := 1) (i := 1) rfl 1 rfl (by decide +kernel) ?_
    exact s_iret (pc := 29) rfl (by decide +kernel)
  · refine s_iload_n (pc := 10) (k0 := 1) (i := 1) rfl 1 rfl (by decide +kernel) ?_
    refine s_aload_n (pc := 11) (k0 := 0) (i := 0) rfl 0 rfl (by decide +kernel) ?_
    refine S_gd (fun c1 => ?_)
    refine s_getR (pc := 12) (k := 0) c1 ft_X6_15 rfl (by decide +kernel) ?_
    refine s_iload_n (pc := 15) (k0 := 2) (i := 2) rfl 2 rfl (by decide +kernel) ?_
    refine S_gd (fun c2 => ?_)
    refine S_gd (fun c3 => ?_)
    refine s_aald (pc := 16) c2 c3 (by decide +kernel) ?_
    refine S_gd (fun c4 => ?_)
    refine s_getI (pc := 17) (k := 0) c4 ft_X6_134 rfl (by decide +kernel) ?_
    refine s_iadd (pc := 20) (by decide +kernel) ?_
    refine s_nmI (fun v5 => ?_)
    refine s_istore_n (pc := 21) (L' := [(1, .int v5), (0, .ref a0), (2, .int a2)]) (k0 := 1) (i := 1) rfl (by decide) rfl (by decide +kernel) ?_
    refine s_iinc (pc := 22) (L' := [(2, .int (a2 + (1 : Int32))), (1, .int v5), (0, .ref a0)]) (i := 2) (n := 1) 2 rfl rfl (by decide) rfl (by decide +kernel) ?_
    refine s_nmI0 (e := a2 + (1 : Int32)) (L := fun v6 => [(2, .int v6), (1, .int v5), (0, .ref a0)]) (fun v6 => ?_)
    refine s_goto (pc := 25) (off := -21) 4 (by decide +kernel) (by decide) ?_
    refine S_sub [2, 1, 0] rfl ?_
    exact hr4 a0 v5 v6 h
theorem pX6_storeKnots_l4 {h0 : xH}   : ∀ (k : Nat)  (a0 : Nat) (a1 : Int32) (a2 : Int32) (h : xH), S emI kX6_storeKnots h0 4 [(0, .ref a0), (1, .int a1), (2, .int a2)] [] h (fX6_storeKnots_l4  k  a0 a1 a2 h) := by
  intro k
  induction k with
  | zero => intros; exact S_none
  | succ k ih => intro  a0 a1 a2 h; exact pX6_storeKnots_b4 ih  a0 a1 a2 h
theorem pX6_storeKnots_e    (a0 : Nat) (h : xH) : S emI kX6_storeKnots h 0 [(0, .ref a0)] [] h (fX6_storeKnots  a0 h) := by
  unfold fX6_storeKnots
  refine s_iconst (pc := 0) (n := 0) (v := (0 : Int32)) (by decide) (by decide +kernel) ?_
  refine s_nmI (fun v1 => ?_)
  refine s_istore_n (pc := 1) (L' := [(1, .int v1), (0, .ref a0)]) (k0 := 1) (i := 1) rfl (by decide) rfl (by decide +kernel) ?_
  refine s_iconst (pc := 2) (n := 0) (v := (0 : Int32)) (by decide) (by decide +kernel) ?_
  refine s_nmI (fun v2 => ?_)
  refine s_istore_n (pc := 3) (L' := [(2, .int v2), (1, .int v1), (0, .ref a0)]) (k0 := 2) (i := 2) rfl (by decide) rfl (by decide +kernel) ?_
  refine S_sub [2, 1, 0] rfl ?_
  exact pX6_storeKnots_l4 FU a0 v1 v2 h
theorem tX6_storeKnots (a0 : Nat) (h : xH) : Ct yX6_storeKnots kX6_storeKnots emI [.ref a0] h (fX6_storeKnots a0 h) := Ct_of (by decide +kernel) rfl rfl rfl (Nat.le_of_ble_eq_true rfl) rfl (pX6_storeKnots_e a0 h)
def fX6_image_b15 (r15 : Nat → Int32 → Int32 → xH → Option (Int32 × xH))  (a0 : Nat) (a1 : Int32) (a2 : Int32) (h : xH) : Option (Int32 × xH) :=
  if (7 : Int32) ≤ a2 then (
  if kc h a0 = 6 then
  if kc h (hR h a0 4) = 10 then
  if ix a1 (kl h (hR h a0 4)) then
  lt (sI h (hR h a0 4) a1.toNatClampNeg (1 : Int32)) (fun g4 =>
  lt (sI g4 a0 6 (0 : Int32)) (fun g7 =>
  bd (fX6_storeKnots a0 g7) (fun w12 g10 =>
  some (w12, g10))))
  else none
  else none
  else none)
  else (
  if kc h a0 = 6 then
  if kc h (hR h a0 3) = 12 then
  if ix ((a1 * (7 : Int32)) + a2) (kl h (hR h a0 3)) then
  if kc h (hR h a0 0) = 12 then
  if ix a2 (kl h (hR h a0 0)) then
  if kc h (hR h (hR h a0 3) ((a1 * (7 : Int32)) + a2).toNatClampNeg) = 4 then
  bd (fX4_copyOf (hR h (hR h a0 3) ((a1 * (7 : Int32)) + a2).toNatClampNeg) (hR h (hR h a0 0) a2.toNatClampNeg) h) (fun _ g19 =>
  lt (a2 + (1 : Int32)) (fun v21 =>
  r15 a0 a1 v21 g19))
  else none
  else none
  else none
  else none
  else none
  else none)
def fX6_image_l15  : Nat → Nat → Int32 → Int32 → xH → Option (Int32 × xH)
  | 0 => fun _ _ _ _ => none
  | k + 1 => fX6_image_b15 (fX6_image_l15  k)
def fX6_image   (a0 : Nat) (a1 : Int32) (h : xH) : Option (Int32 × xH) :=
  bd (fX6_isImage a1 h) (fun w3 g1 =>
  if w3 = 0 then (
  if kc g1 a0 = 6 then
  bd (fX6_refuse a0 (-1 : Int32) g1) (fun w8 g6 =>
  some (w8, g6))
  else none)
  else (
  lt (0 : Int32) (fun v4 =>
  fX6_image_l15 FU a0 a1 v4 g1)))
theorem pX6_image_b15 {h0 : xH} {r15 : Nat → Int32 → Int32 → xH → Option (Int32 × xH)} (hr15 : ∀  (a0 : Nat) (a1 : Int32) (a2 : Int32) (g : xH), S emI kX6_image h0 15 [(0, .ref a0), (1, .int a1), (2, .int a2)] [] g (r15  a0 a1 a2 g))  (a0 : Nat) (a1 : Int32) (a2 : Int32) (h : xH) : S emI kX6_image h0 15 [(0, .ref a0), (1, .int a1), (2, .int a2)] [] h (fX6_image_b15 r15 a0 a1 a2 h) := by
  unfold fX6_image_b15
  refine s_iload_n (pc := 15) (k0 := 2) (i := 2) rfl 2 rfl (by decide +kernel) ?_
  refine s_bipush (pc := 16) (n := 7) (v := (7 : Int32)) (by decide) (by decide +kernel) ?_
  refine s_icmp_ge (pc := 18) (off := 29) 47 (by decide +kernel) (by decide) (fun _ => ?_) (fun _ => ?_)
  · refine s_aload_n (pc := 47) (k0 := 0) (i := 0) rfl 0 rfl (by decide +kernel) ?_
    refine S_gd (fun c1 => ?_)
    refine s_getR (pc := 48) (k := 4) c1 ft_X6_34 rfl (by decide +kernel) ?_
    refine s_iload_n (pc := 51) (k0 := 1) (i := 1) rfl 1 rfl (by decide +kernel) ?_
    refine s_iconst (pc := 52) (n := 1) (v := (1 : Int32)) (by decide) (by decide +kernel) ?_
    refine S_gd (fun c2 => ?_)
    refine S_gd (fun c3 => ?_)
    refine s_zast (pc := 53) (by decide) c2 c3 (by decide +kernel) ?_
    refine s_nmH (o := h) rfl (fun g4 e5 => ?_)
    refine s_aload_n (pc := 54) (k0 := 0) (i := 0) rfl 0 rfl (by decide +kernel) ?_
    refine s_iconst (pc := 55) (n := 0) (v := (0 : Int32)) (by decide) (by decide +kernel) ?_
    have c6 := kp e5 c1 (by decide)
    refine s_putI (pc := 56) (k := 6) c6 ft_X6_45 (fw_6_6 _ _) rfl rfl (by decide +kernel) ?_
    refine s_nmH (o := g4) rfl (fun g7 e8 => ?_)
    refine s_aload_n (pc := 59) (k0 := 0) (i := 0) rfl 0 rfl (by decide +kernel) ?_
    have c9 := kp e8 c6 (by decide)
    refine s_cVi (pc := 60) [] (tX6_storeKnots a0 g7) c9 cw_X6_206 rfl ⟨⟨Nat.le_of_ble_eq_true rfl, Nat.le_of_ble_eq_true rfl⟩, Nat.le_of_ble_eq_true rfl⟩ rfl (by decide +kernel) (fun w12 g10 e11 => ?_)
    exact s_iret (pc := 63) rfl (by decide +kernel)
  · refine s_aload_n (pc := 21) (k0 := 0) (i := 0) rfl 0 rfl (by decide +kernel) ?_
    refine S_gd (fun c13 => ?_)
    refine s_getR (pc := 22) (k := 3) c13 ft_X6_31 rfl (by decide +kernel) ?_
    refine s_iload_n (pc := 25) (k0 := 1) (i := 1) rfl 1 rfl (by decide +kernel) ?_
    refine s_bipush (pc := 26) (n := 7) (v := (7 : Int32)) (by decide) (by decide +kernel) ?_
    refine s_imul (pc := 28) (by decide +kernel) ?_
    refine s_iload_n (pc := 29) (k0 := 2) (i := 2) rfl 2 rfl (by decide +kernel) ?_
    refine s_iadd (pc := 30) (by decide +kernel) ?_
    refine S_gd (fun c14 => ?_)
    refine S_gd (fun c15 => ?_)
    refine s_aald (pc := 31) c14 c15 (by decide +kernel) ?_
    refine s_aload_n (pc := 32) (k0 := 0) (i := 0) rfl 0 rfl (by decide +kernel) ?_
    refine s_getR (pc := 33) (k := 0) c13 ft_X6_15 rfl (by decide +kernel) ?_
    refine s_iload_n (pc := 36) (k0 := 2) (i := 2) rfl 2 rfl (by decide +kernel) ?_
    refine S_gd (fun c16 => ?_)
    refine S_gd (fun c17 => ?_)
    refine s_aald (pc := 37) c16 c17 (by decide +kernel) ?_
    refine S_gd (fun c18 => ?_)
    refine s_cVv (pc := 38) [.ref (hR h (hR h a0 0) a2.toNatClampNeg)] (tX4_copyOf (hR h (hR h a0 3) ((a1 * (7 : Int32)) + a2).toNatClampNeg) (hR h (hR h a0 0) a2.toNatClampNeg) h) c18 cw_X6_141 rfl ⟨⟨Nat.le_of_ble_eq_true rfl, Nat.le_of_ble_eq_true rfl⟩, Nat.le_of_ble_eq_true rfl⟩ rfl (by decide +kernel) (fun _ g19 e20 => ?_)
    refine s_iinc (pc := 41) (L' := [(2, .int (a2 + (1 : Int32))), (0, .ref a0), (1, .int a1)]) (i := 2) (n := 1) 2 rfl rfl (by decide) rfl (by decide +kernel) ?_
    refine s_nmI0 (e := a2 + (1 : Int32)) (L := fun v21 => [(2, .int v21), (0, .ref a0), (1, .int a1)]) (fun v21 => ?_)
    refine s_goto (pc := 44) (off := -29) 15 (by decide +kernel) (by decide) ?_
    refine S_sub [1, 2, 0] rfl ?_
    exact hr15 a0 a1 v21 g19
theorem pX6_image_l15 {h0 : xH}   : ∀ (k : Nat)  (a0 : Nat) (a1 : Int32) (a2 : Int32) (h : xH), S emI kX6_image h0 15 [(0, .ref a0), (1, .int a1), (2, .int a2)] [] h (fX6_image_l15  k  a0 a1 a2 h) := by
  intro k
  induction k with
  | zero => intros; exact S_none
  | succ k ih => intro  a0 a1 a2 h; exact pX6_image_b15 ih  a0 a1 a2 h
theorem pX6_image_e    (a0 : Nat) (a1 : Int32) (h : xH) : S emI kX6_image h 0 [(0, .ref a0), (1, .int a1)] [] h (fX6_image  a0 a1 h) := by
  unfold fX6_image
  refine s_iload_n (pc := 0) (k0 := 1) (i := 1) rfl 1 rfl (by decide +kernel) ?_
  refine s_cSi (pc := 1) [.int a1] (tX6_isImage a1 h) cw_X6_203 rfl ⟨⟨Nat.le_of_ble_eq_true rfl, Nat.le_of_ble_eq_true rfl⟩, Nat.le_of_ble_eq_true rfl⟩ rfl (by decide +kernel) (fun w3 g1 e2 => ?_)
  refine s_if_ne (pc := 4) (off := 9) 13 (by decide +kernel) (by decide) (fun _ => ?_) (fun _ => ?_)
  · refine s_aload_n (pc := 7) (k0 := 0) (i := 0) rfl 0 rfl (by decide +kernel) ?_
    refine s_iconst (pc := 8) (n := -1) (v := (-1 : Int32)) (by decide) (by decide +kernel) ?_
    refine S_gd (fun c5 => ?_)
    refine s_cVi (pc := 9) [.int (-1 : Int32)] (tX6_refuse a0 (-1 : Int32) g1) c5 cw_X6_101 rfl ⟨⟨Nat.le_of_ble_eq_true rfl, Nat.le_of_ble_eq_true rfl⟩, Nat.le_of_ble_eq_true rfl⟩ rfl (by decide +kernel) (fun w8 g6 e7 => ?_)
    exact s_iret (pc := 12) rfl (by decide +kernel)
  · refine s_iconst (pc := 13) (n := 0) (v := (0 : Int32)) (by decide) (by decide +kernel) ?_
    refine s_nmI (fun v4 => ?_)
    refine s_istore_n (pc := 14) (L' := [(2, .int v4), (0, .ref a0), (1, .int a1)]) (k0 := 2) (i := 2) rfl (by decide) rfl (by decide +kernel) ?_
    refine S_sub [1, 2, 0] rfl ?_
    exact pX6_image_l15 FU a0 a1 v4 g1
theorem tX6_image (a0 : Nat) (a1 : Int32) (h : xH) : Ct yX6_image kX6_image emI [.ref a0, .int a1] h (fX6_image a0 a1 h) := Ct_of (by decide +kernel) rfl rfl rfl (Nat.le_of_ble_eq_true rfl) rfl (pX6_image_e a0 a1 h)
def fX6_back_b31 (r31 : Nat → Int32 → Int32 → xH → Option (Int32 × xH))  (a0 : Nat) (a1 : Int32) (a2 : Int32) (h : xH) : Option (Int32 × xH) :=
  if (7 : Int32) ≤ a2 then (
  if kc h a0 = 6 then
  if kc h (hR h a0 2) = 0 then
  bd (fX0_forget (hR h a0 2) h) (fun _ g3 =>
  lt (sI g3 a0 6 (0 : Int32)) (fun g6 =>
  bd (fX6_storeKnots a0 g6) (fun w11 g9 =>
  some (w11, g9))))
  else none
  else none)
  else (
  if kc h a0 = 6 then
  if kc h (hR h a0 0) = 12 then
  if ix a2 (kl h (hR h a0 0)) then
  if kc h (hR h a0 3) = 12 then
  if ix ((a1 * (7 : Int32)) + a2) (kl h (hR h a0 3)) then
  if kc h (hR h (hR h a0 0) a2.toNatClampNeg) = 4 then
  bd (fX4_copyOf (hR h (hR h a0 0) a2.toNatClampNeg) (hR h (hR h a0 3) ((a1 * (7 : Int32)) + a2).toNatClampNeg) h) (fun _ g18 =>
  lt (a2 + (1 : Int32)) (fun v20 =>
  r31 a0 a1 v20 g18))
  else none
  else none
  else none
  else none
  else none
  else none)
def fX6_back_l31  : Nat → Nat → Int32 → Int32 → xH → Option (Int32 × xH)
  | 0 => fun _ _ _ _ => none
  | k + 1 => fX6_back_b31 (fX6_back_l31  k)
def fX6_back   (a0 : Nat) (a1 : Int32) (h : xH) : Option (Int32 × xH) :=
  bd (fX6_isImage a1 h) (fun w3 g1 =>
  if w3 = 0 then (
  if kc g1 a0 = 6 then
  bd (fX6_refuse a0 (-1 : Int32) g1) (fun w14 g12 =>
  some (w14, g12))
  else none)
  else (
  if kc g1 a0 = 6 then
  if kc g1 (hR g1 a0 4) = 10 then
  if ix a1 (kl g1 (hR g1 a0 4)) then
  if (hI g1 (hR g1 a0 4) a1.toNatClampNeg) = 0 then (
  bd (fX6_refuse a0 (-2 : Int32) g1) (fun w10 g8 =>
  some (w10, g8)))
  else (
  lt (0 : Int32) (fun v7 =>
  fX6_back_l31 FU a0 a1 v7 g1))
  else none
  else none
  else none))
theorem pX6_back_b31 {h0 : xH} {r31 : Nat → Int32 → Int32 → xH → Option (Int32 × xH)} (hr31 : ∀  (a0 : Nat) (a1 : Int32) (a2 : Int32) (g : xH), S emI kX6_back h0 31 [(0, .ref a0), (1, .int a1), (2, .int a2)] [] g (r31  a0 a1 a2 g))  (a0 : Nat) (a1 : Int32) (a2 : Int32) (h : xH) : S emI kX6_back h0 31 [(0, .ref a0), (1, .int a1), (2, .int a2)] [] h (fX6_back_b31 r31 a0 a1 a2 h) := by
  unfold fX6_back_b31
  refine s_iload_n (pc := 31) (k0 := 2) (i := 2) rfl 2 rfl (by decide +kernel) ?_
  refine s_bipush (pc := 32) (n := 7) (v := (7 : Int32)) (by decide) (by decide +kernel) ?_
  refine s_icmp_ge (pc := 34) (off := 29) 63 (by decide +kernel) (by decide) (fun _ => ?_) (fun _ => ?_)
  · refine s_aload_n (pc := 63) (k0 := 0) (i := 0) rfl 0 rfl (by decide +kernel) ?_
    refine S_gd (fun c1 => ?_)
    refine s_getR (pc := 64) (k := 2) c1 ft_X6_27 rfl (by decide +kernel) ?_
    refine S_gd (fun c2 => ?_)
    refine s_cVv (pc := 67) [] (tX0_forget (hR h a0 2) h) c2 cw_X6_209 rfl ⟨⟨Nat.le_of_ble_eq_true rfl, Nat.le_of_ble_eq_true rfl⟩, Nat.le_of_ble_eq_true rfl⟩ rfl (by decide +kernel) (fun _ g3 e4 => ?_)
    refine s_aload_n (pc := 70) (k0 := 0) (i := 0) rfl 0 rfl (by decide +kernel) ?_
    refine s_iconst (pc := 71) (n := 0) (v := (0 : Int32)) (by decide) (by decide +kernel) ?_
    have c5 := kp e4 c1 (by decide)
    refine s_putI (pc := 72) (k := 6) c5 ft_X6_45 (fw_6_6 _ _) rfl rfl (by decide +kernel) ?_
    refine s_nmH (o := g3) rfl (fun g6 e7 => ?_)
    refine s_aload_n (pc := 75) (k0 := 0) (i := 0) rfl 0 rfl (by decide +kernel) ?_
    have c8 := kp e7 c5 (by decide)
    refine s_cVi (pc := 76) [] (tX6_storeKnots a0 g6) c8 cw_X6_206 rfl ⟨⟨Nat.le_of_ble_eq_true rfl, Nat.le_of_ble_eq_true rfl⟩, Nat.le_of_ble_eq_true rfl⟩ rfl (by decide +kernel) (fun w11 g9 e10 => ?_)
    exact s_iret (pc := 79) rfl (by decide +kernel)
  · refine s_aload_n (pc := 37) (k0 := 0) (i := 0) rfl 0 rfl (by decide +kernel) ?_
    refine S_gd (fun c12 => ?_)
    refine s_getR (pc := 38) (k := 0) c12 ft_X6_15 rfl (by decide +kernel) ?_
    refine s_iload_n (pc := 41) (k0 := 2) (i := 2) rfl 2 rfl (by decide +kernel) ?_
    refine S_gd (fun c13 => ?_)
    refine S_gd (fun c14 => ?_)
    refine s_aald (pc := 42) c13 c14 (by decide +kernel) ?_
    refine s_aload_n (pc := 43) (k0 := 0) (i := 0) rfl 0 rfl (by decide +kernel) ?_
    refine s_getR (pc := 44) (k := 3) c12 ft_X6_31 rfl (by decide +kernel) ?_
    refine s_iload_n (pc := 47) (k0 := 1) (i := 1) rfl 1 rfl (by decide +kernel) ?_
    refine s_bipush (pc := 48) (n := 7) (v := (7 : Int32)) (by decide) (by decide +kernel) ?_
    refine s_imul (pc := 50) (by decide +kernel) ?_
    refine s_iload_n (pc := 51) (k0 := 2) (i := 2) rfl 2 rfl (by decide +kernel) ?_
    refine s_iadd (pc := 52) (by decide +kernel) ?_
    refine S_gd (fun c15 => ?_)
    refine S_gd (fun c16 => ?_)
    refine s_aald (pc := 53) c15 c16 (by decide +kernel) ?_
    refine S_gd (fun c17 => ?_)
    refine s_cVv (pc := 54) [.ref (hR h (hR h a0 3) ((a1 * (7 : Int32)) + a2).toNatClampNeg)] (tX4_copyOf (hR h (hR h a0 0) a2.toNatClampNeg) (hR h (hR h a0 3) ((a1 * (7 : Int32)) + a2).toNatClampNeg) h) c17 cw_X6_141 rfl ⟨⟨Nat.le_of_ble_eq_true rfl, Nat.le_of_ble_eq_true rfl⟩, Nat.le_of_ble_eq_true rfl⟩ rfl (by decide +kernel) (fun _ g18 e19 => ?_)
    refine s_iinc (pc := 57) (L' := [(2, .int (a2 + (1 : Int32))), (0, .ref a0), (1, .int a1)]) (i := 2) (n := 1) 2 rfl rfl (by decide) rfl (by decide +kernel) ?_
    refine s_nmI0 (e := a2 + (1 : Int32)) (L := fun v20 => [(2, .int v20), (0, .ref a0), (1, .int a1)]) (fun v20 => ?_)
    refine s_goto (pc := 60) (off := -29) 31 (by decide +kernel) (by decide) ?_
    refine S_sub [1, 2, 0] rfl ?_
    exact hr31 a0 a1 v20 g18
theorem pX6_back_l31 {h0 : xH}   : ∀ (k : Nat)  (a0 : Nat) (a1 : Int32) (a2 : Int32) (h : xH), S emI kX6_back h0 31 [(0, .ref a0), (1, .int a1), (2, .int a2)] [] h (fX6_back_l31  k  a0 a1 a2 h) := by
  intro k
  induction k with
  | zero => intros; exact S_none
  | succ k ih => intro  a0 a1 a2 h; exact pX6_back_b31 ih  a0 a1 a2 h
theorem pX6_back_e    (a0 : Nat) (a1 : Int32) (h : xH) : S emI kX6_back h 0 [(0, .ref a0), (1, .int a1)] [] h (fX6_back  a0 a1 h) := by
  unfold fX6_back
  refine s_iload_n (pc := 0) (k0 := 1) (i := 1) rfl 1 rfl (by decide +kernel) ?_
  refine s_cSi (pc := 1) [.int a1] (tX6_isImage a1 h) cw_X6_203 rfl ⟨⟨Nat.le_of_ble_eq_true rfl, Nat.le_of_ble_eq_true rfl⟩, Nat.le_of_ble_eq_true rfl⟩ rfl (by decide +kernel) (fun w3 g1 e2 => ?_)
  refine s_if_ne (pc := 4) (off := 9) 13 (by decide +kernel) (by decide) (fun _ => ?_) (fun _ => ?_)
  · refine s_aload_n (pc := 7) (k0 := 0) (i := 0) rfl 0 rfl (by decide +kernel) ?_
    refine s_iconst (pc := 8) (n := -1) (v := (-1 : Int32)) (by decide) (by decide +kernel) ?_
    refine S_gd (fun c11 => ?_)
    refine s_cVi (pc := 9) [.int (-1 : Int32)] (tX6_refuse a0 (-1 : Int32) g1) c11 cw_X6_101 rfl ⟨⟨Nat.le_of_ble_eq_true rfl, Nat.le_of_ble_eq_true rfl⟩, Nat.le_of_ble_eq_true rfl⟩ rfl (by decide +kernel) (fun w14 g12 e13 => ?_)
    exact s_iret (pc := 12) rfl (by decide +kernel)
  · refine s_aload_n (pc := 13) (k0 := 0) (i := 0) rfl 0 rfl (by decide +kernel) ?_
    refine S_gd (fun c4 => ?_)
    refine s_getR (pc := 14) (k := 4) c4 ft_X6_34 rfl (by decide +kernel) ?_
    refine s_iload_n (pc := 17) (k0 := 1) (i := 1) rfl 1 rfl (by decide +kernel) ?_
    refine S_gd (fun c5 => ?_)
    refine S_gd (fun c6 => ?_)
    refine s_zald (pc := 18) c5 c6 (by decide +kernel) ?_
    refine s_if_ne (pc := 19) (off := 10) 29 (by decide +kernel) (by decide) (fun _ => ?_) (fun _ => ?_)
    · refine s_aload_n (pc := 22) (k0 := 0) (i := 0) rfl 0 rfl (by decide +kernel) ?_
      refine s_bipush (pc := 23) (n := -2) (v := (-2 : Int32)) (by decide) (by decide +kernel) ?_
      refine s_cVi (pc := 25) [.int (-2 : Int32)] (tX6_refuse a0 (-2 : Int32) g1) c4 cw_X6_101 rfl ⟨⟨Nat.le_of_ble_eq_true rfl, Nat.le_of_ble_eq_true rfl⟩, Nat.le_of_ble_eq_true rfl⟩ rfl (by decide +kernel) (fun w10 g8 e9 => ?_)
      exact s_iret (pc := 28) rfl (by decide +kernel)
    · refine s_iconst (pc := 29) (n := 0) (v := (0 : Int32)) (by decide) (by decide +kernel) ?_
      refine s_nmI (fun v7 => ?_)
      refine s_istore_n (pc := 30) (L' := [(2, .int v7), (0, .ref a0), (1, .int a1)]) (k0 := 2) (i := 2) rfl (by decide) rfl (by decide +kernel) ?_
      refine S_sub [1, 2, 0] rfl ?_
      exact pX6_back_l31 FU a0 a1 v7 g1
theorem tX6_back (a0 : Nat) (a1 : Int32) (h : xH) : Ct yX6_back kX6_back emI [.ref a0, .int a1] h (fX6_back a0 a1 h) := Ct_of (by decide +kernel) rfl rfl rfl (Nat.le_of_ble_eq_true rfl) rfl (pX6_back_e a0 a1 h)
def fX6_tellPlain   (a0 : Nat) (a1 : Int32) (h : xH) : Option (Int64 × xH) :=
  if kc h a0 = 2 then
  if (hI h a0 0) = 0 then (
  some ((-9223372036854775808 : Int64), h))
  else (
  if a1 = 0 then (
  some ((hJ h a0 1), h))
  else (
  some ((hJ h a0 2), h)))
  else none
theorem pX6_tellPlain_e    (a0 : Nat) (a1 : Int32) (h : xH) : S emJ kX6_tellPlain h 0 [(0, .ref a0), (1, .int a1)] [] h (fX6_tellPlain  a0 a1 h) := by
  unfold fX6_tellPlain
  refine s_aload_n (pc := 0) (k0 := 0) (i := 0) rfl 0 rfl (by decide +kernel) ?_
  refine S_gd (fun c1 => ?_)
  refine s_getI (pc := 1) (k := 0) c1 ft_X6_252 rfl (by decide +kernel) ?_
  refine s_if_ne (pc := 4) (off := 7) 11 (by decide +kernel) (by decide) (fun _ => ?_) (fun _ => ?_)
  · refine s_ldc2 (pc := 7) (v := (-9223372036854775808 : Int64)) (index := 212) (gd_of 641 (by decide +kernel) rfl) (by decide +kernel) ?_
    exact s_lret (pc := 10) rfl (by decide +kernel)
  · refine s_iload_n (pc := 11) (k0 := 1) (i := 1) rfl 1 rfl (by decide +kernel) ?_
    refine s_if_ne (pc := 12) (off := 10) 22 (by decide +kernel) (by decide) (fun _ => ?_) (fun _ => ?_)
    · refine s_aload_n (pc := 15) (k0 := 0) (i := 0) rfl 0 rfl (by decide +kernel) ?_
      refine s_getJ (pc := 16) (k := 1) c1 ft_X6_256 rfl (by decide +kernel) ?_
      refine s_goto (pc := 19) (off := 7) 26 (by decide +kernel) (by decide) ?_
      exact s_lret (pc := 26) rfl (by decide +kernel)
    · refine s_aload_n (pc := 22) (k0 := 0) (i := 0) rfl 0 rfl (by decide +kernel) ?_
      refine s_getJ (pc := 23) (k := 2) c1 ft_X6_260 rfl (by decide +kernel) ?_
      exact s_lret (pc := 26) rfl (by decide +kernel)
theorem tX6_tellPlain (a0 : Nat) (a1 : Int32) (h : xH) : Ct yX6_tellPlain kX6_tellPlain emJ [.ref a0, .int a1] h (fX6_tellPlain a0 a1 h) := Ct_of (by decide +kernel) rfl rfl rfl (Nat.le_of_ble_eq_true rfl) rfl (pX6_tellPlain_e a0 a1 h)
def fX6_tellNumber   (a0 : Nat) (a1 : Int32) (h : xH) : Option (Int64 × xH) :=
  if kc h a0 = 2 then
  if (hI h a0 0) = 0 then (
  some ((-9223372036854775808 : Int64), h))
  else (
  bd (fX2_assign a0 (hJ h a0 1) ((hJ h a0 2) * (60 : Int64)) h) (fun _ g2 =>
  bd (fX6_tellPlain a0 a1 g2) (fun w6 g4 =>
  some (w6, g4))))
  else none
theorem pX6_tellNumber_e    (a0 : Nat) (a1 : Int32) (h : xH) : S emJ kX6_tellNumber h 0 [(0, .ref a0), (1, .int a1)] [] h (fX6_tellNumber  a0 a1 h) := by
  unfold fX6_tellNumber
  refine s_aload_n (pc := 0) (k0 := 0) (i := 0) rfl 0 rfl (by decide +kernel) ?_
  refine S_gd (fun c1 => ?_)
  refine s_getI (pc := 1) (k := 0) c1 ft_X6_252 rfl (by decide +kernel) ?_
  refine s_if_ne (pc := 4) (off := 7) 11 (by decide +kernel) (by decide) (fun _ => ?_) (fun _ => ?_)
  · refine s_ldc2 (pc := 7) (v := (-9223372036854775808 : Int64)) (index := 212) (gd_of 641 (by decide +kernel) rfl) (by decide +kernel) ?_
    exact s_lret (pc := 10) rfl (by decide +kernel)
  · refine s_aload_n (pc := 11) (k0 := 0) (i := 0) rfl 0 rfl (by decide +kernel) ?_
    refine s_aload_n (pc := 12) (k0 := 0) (i := 0) rfl 0 rfl (by decide +kernel) ?_
    refine s_getJ (pc := 13) (k := 1) c1 ft_X6_256 rfl (by decide +kernel) ?_
    refine s_aload_n (pc := 16) (k0 := 0) (i := 0) rfl 0 rfl (by decide +kernel) ?_
    refine s_getJ (pc := 17) (k := 2) c1 ft_X6_260 rfl (by decide +kernel) ?_
    refine s_ldc2 (pc := 20) (v := (60 : Int64)) (index := 263) (gd_of 650 (by decide +kernel) rfl) (by decide +kernel) ?_
    refine s_lmul (pc := 23) (by decide +kernel) ?_
    refine s_cVv (pc := 24) [.long (hJ h a0 1), .long ((hJ h a0 2) * (60 : Int64))] (tX2_assign a0 (hJ h a0 1) ((hJ h a0 2) * (60 : Int64)) h) c1 cw_X6_221 rfl ⟨⟨Nat.le_of_ble_eq_true rfl, Nat.le_of_ble_eq_true rfl⟩, Nat.le_of_ble_eq_true rfl⟩ rfl (by decide +kernel) (fun _ g2 e3 => ?_)
    refine s_aload_n (pc := 27) (k0 := 0) (i := 0) rfl 0 rfl (by decide +kernel) ?_
    refine s_iload_n (pc := 28) (k0 := 1) (i := 1) rfl 1 rfl (by decide +kernel) ?_
    refine s_cSj (pc := 29) [.ref a0, .int a1] (tX6_tellPlain a0 a1 g2) cw_X6_308 rfl ⟨⟨Nat.le_of_ble_eq_true rfl, Nat.le_of_ble_eq_true rfl⟩, Nat.le_of_ble_eq_true rfl⟩ rfl (by decide +kernel) (fun w6 g4 e5 => ?_)
    exact s_lret (pc := 32) rfl (by decide +kernel)
theorem tX6_tellNumber (a0 : Nat) (a1 : Int32) (h : xH) : Ct yX6_tellNumber kX6_tellNumber emJ [.ref a0, .int a1] h (fX6_tellNumber a0 a1 h) := Ct_of (by decide +kernel) rfl rfl rfl (Nat.le_of_ble_eq_true rfl) rfl (pX6_tellNumber_e a0 a1 h)
def fX6_paper_b60   (a0 : Nat) (a1 : Int32) (a2 : Int32) (a3 : Nat) (h : xH) : Option (Int64 × xH) :=
  if kc h a0 = 6 then
  if kc h a3 = 4 then
  if kc h (hR h a3 1) = 9 then
  if ix a1 (kl h (hR h a3 1)) then
  if kc h (hR h a3 2) = 9 then
  if ix a1 (kl h (hR h a3 2)) then
  if kc h (hR h a0 11) = 2 then
  bd (fX2_assign (hR h a0 11) (hJ h (hR h a3 1) a1.toNatClampNeg) (hJ h (hR h a3 2) a1.toNatClampNeg) h) (fun _ g8 =>
  bd (fX6_tellNumber (hR g8 a0 11) a2 g8) (fun w13 g11 =>
  some (w13, g11)))
  else none
  else none
  else none
  else none
  else none
  else none
  else none
def fX6_paper_b88   (a0 : Nat) (a1 : Int32) (a2 : Int32) (a3 : Nat) (h : xH) : Option (Int64 × xH) :=
  if kc h a0 = 6 then
  if kc h a3 = 4 then
  if kc h (hR h a3 3) = 9 then
  if ix a1 (kl h (hR h a3 3)) then
  if kc h (hR h a3 4) = 9 then
  if ix a1 (kl h (hR h a3 4)) then
  if kc h (hR h a0 11) = 2 then
  bd (fX2_assign (hR h a0 11) (hJ h (hR h a3 3) a1.toNatClampNeg) (hJ h (hR h a3 4) a1.toNatClampNeg) h) (fun _ g8 =>
  bd (fX6_tellNumber (hR g8 a0 11) (a2 - (2 : Int32)) g8) (fun w13 g11 =>
  some (w13, g11)))
  else none
  else none
  else none
  else none
  else none
  else none
  else none
def fX6_paper   (a0 : Nat) (a1 : Int32) (a2 : Int32) (h : xH) : Option (Int64 × xH) :=
  if kc h a0 = 6 then
  if kc h (hR h a0 0) = 12 then
  if ix (6 : Int32) (kl h (hR h a0 0)) then
  lt (hR h (hR h a0 0) (6 : Int32).toNatClampNeg) (fun v4 =>
  if a1 < 0 then (
  some ((-9223372036854775808 : Int64), h))
  else (
  if kc h v4 = 4 then
  if a1 < (hI h v4 0) then (
  if a2 = (0 : Int32) then
  (fX6_paper_b60 a0 a1 a2 v4 h)
  else (
  if a2 = (1 : Int32) then
  (fX6_paper_b60 a0 a1 a2 v4 h)
  else (
  if a2 = (2 : Int32) then
  (fX6_paper_b88 a0 a1 a2 v4 h)
  else (
  if a2 = (3 : Int32) then
  (fX6_paper_b88 a0 a1 a2 v4 h)
  else (
  if a2 = (4 : Int32) then
  (if kc h (hR h v4 5) = 8 then
  if ix a1 (kl h (hR h v4 5)) then
  some (((hI h (hR h v4 5) a1.toNatClampNeg).toInt64), h)
  else none
  else none)
  else (
  (some ((-9223372036854775808 : Int64), h))))))))
  else (
  some ((-9223372036854775808 : Int64), h))
  else none))
  else none
  else none
  else none
theorem pX6_paper_b60 {h0 : xH}    (a0 : Nat) (a1 : Int32) (a2 : Int32) (a3 : Nat) (h : xH) : S emJ kX6_paper h0 60 [(0, .ref a0), (1, .int a1), (2, .int a2), (3, .ref a3)] [] h (fX6_paper_b60  a0 a1 a2 a3 h) := by
  unfold fX6_paper_b60
  refine s_aload_n (pc := 60) (k0 := 0) (i := 0) rfl 0 rfl (by decide +kernel) ?_
  refine S_gd (fun c1 => ?_)
  refine s_getR (pc := 61) (k := 11) c1 ft_X6_71 rfl (by decide +kernel) ?_
  refine s_aload_n (pc := 64) (k0 := 3) (i := 3) rfl 3 rfl (by decide +kernel) ?_
  refine S_gd (fun c2 => ?_)
  refine s_getR (pc := 65) (k := 1) c2 ft_X6_214 rfl (by decide +kernel) ?_
  refine s_iload_n (pc := 68) (k0 := 1) (i := 1) rfl 1 rfl (by decide +kernel) ?_
  refine S_gd (fun c3 => ?_)
  refine S_gd (fun c4 => ?_)
  refine s_lald (pc := 69) c3 c4 (by decide +kernel) ?_
  refine s_aload_n (pc := 70) (k0 := 3) (i := 3) rfl 3 rfl (by decide +kernel) ?_
  refine s_getR (pc := 71) (k := 2) c2 ft_X6_218 rfl (by decide +kernel) ?_
  refine s_iload_n (pc := 74) (k0 := 1) (i := 1) rfl 1 rfl (by decide +kernel) ?_
  refine S_gd (fun c5 => ?_)
  refine S_gd (fun c6 => ?_)
  refine s_lald (pc := 75) c5 c6 (by decide +kernel) ?_
  refine S_gd (fun c7 => ?_)
  refine s_cVv (pc := 76) [.long (hJ h (hR h a3 1) a1.toNatClampNeg), .long (hJ h (hR h a3 2) a1.toNatClampNeg)] (tX2_assign (hR h a0 11) (hJ h (hR h a3 1) a1.toNatClampNeg) (hJ h (hR h a3 2) a1.toNatClampNeg) h) c7 cw_X6_221 rfl ⟨⟨Nat.le_of_ble_eq_true rfl, Nat.le_of_ble_eq_true rfl⟩, Nat.le_of_ble_eq_true rfl⟩ rfl (by decide +kernel) (fun _ g8 e9 => ?_)
  refine s_aload_n (pc := 79) (k0 := 0) (i := 0) rfl 0 rfl (by decide +kernel) ?_
  have c10 := kp e9 c1 (by decide)
  refine s_getR (pc := 80) (k := 11) c10 ft_X6_71 rfl (by decide +kernel) ?_
  refine s_iload_n (pc := 83) (k0 := 2) (i := 2) rfl 2 rfl (by decide +kernel) ?_
  refine s_cSj (pc := 84) [.ref (hR g8 a0 11), .int a2] (tX6_tellNumber (hR g8 a0 11) a2 g8) cw_X6_225 rfl ⟨⟨Nat.le_of_ble_eq_true rfl, Nat.le_of_ble_eq_true rfl⟩, Nat.le_of_ble_eq_true rfl⟩ rfl (by decide +kernel) (fun w13 g11 e12 => ?_)
  exact s_lret (pc := 87) rfl (by decide +kernel)
theorem pX6_paper_b88 {h0 : xH}    (a0 : Nat) (a1 : Int32) (a2 : Int32) (a3 : Nat) (h : xH) : S emJ kX6_paper h0 88 [(0, .ref a0), (1, .int a1), (2, .int a2), (3, .ref a3)] [] h (fX6_paper_b88  a0 a1 a2 a3 h) := by
  unfold fX6_paper_b88
  refine s_aload_n (pc := 88) (k0 := 0) (i := 0) rfl 0 rfl (by decide +kernel) ?_
  refine S_gd (fun c1 => ?_)
  refine s_getR (pc := 89) (k := 11) c1 ft_X6_71 rfl (by decide +kernel) ?_
  refine s_aload_n (pc := 92) (k0 := 3) (i := 3) rfl 3 rfl (by decide +kernel) ?_
  refine S_gd (fun c2 => ?_)
  refine s_getR (pc := 93) (k := 3) c2 ft_X6_229 rfl (by decide +kernel) ?_
  refine s_iload_n (pc := 96) (k0 := 1) (i := 1) rfl 1 rfl (by decide +kernel) ?_
  refine S_gd (fun c3 => ?_)
  refine S_gd (fun c4 => ?_)
  refine s_lald (pc := 97) c3 c4 (by decide +kernel) ?_
  refine s_aload_n (pc := 98) (k0 := 3) (i := 3) rfl 3 rfl (by decide +kernel) ?_
  refine s_getR (pc := 99) (k := 4) c2 ft_X6_232 rfl (by decide +kernel) ?_
  refine s_iload_n (pc := 102) (k0 := 1) (i := 1) rfl 1 rfl (by decide +kernel) ?_
  refine S_gd (fun c5 => ?_)
  refine S_gd (fun c6 => ?_)
  refine s_lald (pc := 103) c5 c6 (by decide +kernel) ?_
  refine S_gd (fun c7 => ?_)
  refine s_cVv (pc := 104) [.long (hJ h (hR h a3 3) a1.toNatClampNeg), .long (hJ h (hR h a3 4) a1.toNatClampNeg)] (tX2_assign (hR h a0 11) (hJ h (hR h a3 3) a1.toNatClampNeg) (hJ h (hR h a3 4) a1.toNatClampNeg) h) c7 cw_X6_221 rfl ⟨⟨Nat.le_of_ble_eq_true rfl, Nat.le_of_ble_eq_true rfl⟩, Nat.le_of_ble_eq_true rfl⟩ rfl (by decide +kernel) (fun _ g8 e9 => ?_)
  refine s_aload_n (pc := 107) (k0 := 0) (i := 0) rfl 0 rfl (by decide +kernel) ?_
  have c10 := kp e9 c1 (by decide)
  refine s_getR (pc := 108) (k := 11) c10 ft_X6_71 rfl (by decide +kernel) ?_
  refine s_iload_n (pc := 111) (k0 := 2) (i := 2) rfl 2 rfl (by decide +kernel) ?_
  refine s_iconst (pc := 112) (n := 2) (v := (2 : Int32)) (by decide) (by decide +kernel) ?_
  refine s_isub (pc := 113) (by decide +kernel) ?_
  refine s_cSj (pc := 114) [.ref (hR g8 a0 11), .int (a2 - (2 : Int32))] (tX6_tellNumber (hR g8 a0 11) (a2 - (2 : Int32)) g8) cw_X6_225 rfl ⟨⟨Nat.le_of_ble_eq_true rfl, Nat.le_of_ble_eq_true rfl⟩, Nat.le_of_ble_eq_true rfl⟩ rfl (by decide +kernel) (fun w13 g11 e12 => ?_)
  exact s_lret (pc := 117) rfl (by decide +kernel)
theorem pX6_paper_e    (a0 : Nat) (a1 : Int32) (a2 : Int32) (h : xH) : S emJ kX6_paper h 0 [(0, .ref a0), (1, .int a1), (2, .int a2)] [] h (fX6_paper  a0 a1 a2 h) := by
  unfold fX6_paper
  refine s_aload_n (pc := 0) (k0 := 0) (i := 0) rfl 0 rfl (by decide +kernel) ?_
  refine S_gd (fun c1 => ?_)
  refine s_getR (pc := 1) (k := 0) c1 ft_X6_15 rfl (by decide +kernel) ?_
  refine s_bipush (pc := 4) (n := 6) (v := (6 : Int32)) (by decide) (by decide +kernel) ?_
  refine S_gd (fun c2 => ?_)
  refine S_gd (fun c3 => ?_)
  refine s_aald (pc := 6) c2 c3 (by decide +kernel) ?_
  refine s_nmA (fun v4 => ?_)
  refine s_astore_n (pc := 7) (L' := [(3, .ref v4), (0, .ref a0), (1, .int a1), (2, .int a2)]) (k0 := 3) (i := 3) rfl (by decide) rfl (by decide +kernel) ?_
  refine s_iload_n (pc := 8) (k0 := 1) (i := 1) rfl 2 rfl (by decide +kernel) ?_
  refine s_if_lt (pc := 9) (off := 11) 20 (by decide +kernel) (by decide) (fun _ => ?_) (fun _ => ?_)
  · refine s_ldc2 (pc := 20) (v := (-9223372036854775808 : Int64)) (index := 212) (gd_of 641 (by decide +kernel) rfl) (by decide +kernel) ?_
    exact s_lret (pc := 23) rfl (by decide +kernel)
  · refine s_iload_n (pc := 12) (k0 := 1) (i := 1) rfl 2 rfl (by decide +kernel) ?_
    refine s_aload_n (pc := 13) (k0 := 3) (i := 3) rfl 0 rfl (by decide +kernel) ?_
    refine S_gd (fun c5 => ?_)
    refine s_getI (pc := 14) (k := 0) c5 ft_X6_134 rfl (by decide +kernel) ?_
    refine s_icmp_lt (pc := 17) (off := 7) 24 (by decide +kernel) (by decide) (fun _ => ?_) (fun _ => ?_)
    · refine s_iload_n (pc := 24) (k0 := 2) (i := 2) rfl 3 rfl (by decide +kernel) ?_
      refine S_ite (fun e => ?_) (fun ne0 => ?_)
      · refine s_tableIn (pc := 25) (dflt := 101) (lo := 0) (hi := 4) (offs := #[35, 35, 63, 63, 93]) (len := 35) (off := 35) 60 (by decide +kernel) (by rw [e]; decide) (by rw [e]; decide) (by rw [e]; rfl) (by decide) ?_
        refine S_sub [1, 2, 3, 0] rfl ?_
        exact pX6_paper_b60 a0 a1 a2 v4 h
      · refine S_ite (fun e => ?_) (fun ne1 => ?_)
        · refine s_tableIn (pc := 25) (dflt := 101) (lo := 0) (hi := 4) (offs := #[35, 35, 63, 63, 93]) (len := 35) (off := 35) 60 (by decide +kernel) (by rw [e]; decide) (by rw [e]; decide) (by rw [e]; rfl) (by decide) ?_
          refine S_sub [1, 2, 3, 0] rfl ?_
          exact pX6_paper_b60 a0 a1 a2 v4 h
        · refine S_ite (fun e => ?_) (fun ne2 => ?_)
          · refine s_tableIn (pc := 25) (dflt := 101) (lo := 0) (hi := 4) (offs := #[35, 35, 63, 63, 93]) (len := 35) (off := 63) 88 (by decide +kernel) (by rw [e]; decide) (by rw [e]; decide) (by rw [e]; rfl) (by decide) ?_
            refine S_sub [1, 2, 3, 0] rfl ?_
            exact pX6_paper_b88 a0 a1 a2 v4 h
          · refine S_ite (fun e => ?_) (fun ne3 => ?_)
            · refine s_tableIn (pc := 25) (dflt := 101) (lo := 0) (hi := 4) (offs := #[35, 35, 63, 63, 93]) (len := 35) (off := 63) 88 (by decide +kernel) (by rw [e]; decide) (by rw [e]; decide) (by rw [e]; rfl) (by decide) ?_
              refine S_sub [1, 2, 3, 0] rfl ?_
              exact pX6_paper_b88 a0 a1 a2 v4 h
            · refine S_ite (fun e => ?_) (fun ne4 => ?_)
              · refine s_tableIn (pc := 25) (dflt := 101) (lo := 0) (hi := 4) (offs := #[35, 35, 63, 63, 93]) (len := 35) (off := 93) 118 (by decide +kernel) (by rw [e]; decide) (by rw [e]; decide) (by rw [e]; rfl) (by decide) ?_
                refine s_aload_n (pc := 118) (k0 := 3) (i := 3) rfl 0 rfl (by decide +kernel) ?_
                refine s_getR (pc := 119) (k := 5) c5 ft_X6_235 rfl (by decide +kernel) ?_
                refine s_iload_n (pc := 122) (k0 := 1) (i := 1) rfl 2 rfl (by decide +kernel) ?_
                refine S_gd (fun c6 => ?_)
                refine S_gd (fun c7 => ?_)
                refine s_iald (pc := 123) c6 c7 (by decide +kernel) ?_
                refine s_i2l (pc := 124) (by decide +kernel) ?_
                exact s_lret (pc := 125) rfl (by decide +kernel)
              · have tn0 := tb_ne ne0 (n := 0) (by decide)
                have tn1 := tb_ne ne1 (n := 1) (by decide)
                have tn2 := tb_ne ne2 (n := 2) (by decide)
                have tn3 := tb_ne ne3 (n := 3) (by decide)
                have tn4 := tb_ne ne4 (n := 4) (by decide)
                refine s_tableOut (pc := 25) (dflt := 101) (lo := 0) (hi := 4) (offs := #[35, 35, 63, 63, 93]) (len := 35) 126 (by decide +kernel) (by omega) (by decide) ?_
                refine s_ldc2 (pc := 126) (v := (-9223372036854775808 : Int64)) (index := 212) (gd_of 641 (by decide +kernel) rfl) (by decide +kernel) ?_
                exact s_lret (pc := 129) rfl (by decide +kernel)
    · refine s_ldc2 (pc := 20) (v := (-9223372036854775808 : Int64)) (index := 212) (gd_of 641 (by decide +kernel) rfl) (by decide +kernel) ?_
      exact s_lret (pc := 23) rfl (by decide +kernel)
theorem tX6_paper (a0 : Nat) (a1 : Int32) (a2 : Int32) (h : xH) : Ct yX6_paper kX6_paper emJ [.ref a0, .int a1, .int a2] h (fX6_paper a0 a1 a2 h) := Ct_of (by decide +kernel) rfl rfl rfl (Nat.le_of_ble_eq_true rfl) rfl (pX6_paper_e a0 a1 a2 h)
def fX6_knot   (a0 : Nat) (a1 : Int32) (a2 : Int32) (a3 : Int32) (h : xH) : Option (Int32 × xH) :=
  bd (fX6_isStore a1 h) (fun w3 g1 =>
  if w3 = 0 then (
  some ((-2147483648 : Int32), g1))
  else (
  if a2 < 0 then (
  some ((-2147483648 : Int32), g1))
  else (
  if kc g1 a0 = 6 then
  if kc g1 (hR g1 a0 0) = 12 then
  if ix a1 (kl g1 (hR g1 a0 0)) then
  if kc g1 (hR g1 (hR g1 a0 0) a1.toNatClampNeg) = 4 then
  if a2 < (hI g1 (hR g1 (hR g1 a0 0) a1.toNatClampNeg) 0) then (
  if a3 = (0 : Int32) then
  (bd (fX4_xAt (hR g1 (hR g1 a0 0) a1.toNatClampNeg) a2 g1) (fun w15 g13 =>
  some (w15, g13)))
  else (
  if a3 = (1 : Int32) then
  (bd (fX4_yAt (hR g1 (hR g1 a0 0) a1.toNatClampNeg) a2 g1) (fun w12 g10 =>
  some (w12, g10)))
  else (
  if a3 = (2 : Int32) then
  (if kc g1 (hR g1 (hR g1 (hR g1 a0 0) a1.toNatClampNeg) 5) = 8 then
  if ix a2 (kl g1 (hR g1 (hR g1 (hR g1 a0 0) a1.toNatClampNeg) 5)) then
  some ((hI g1 (hR g1 (hR g1 (hR g1 a0 0) a1.toNatClampNeg) 5) a2.toNatClampNeg), g1)
  else none
  else none)
  else (
  (some ((-2147483648 : Int32), g1))))))
  else (
  some ((-2147483648 : Int32), g1))
  else none
  else none
  else none
  else none)))
theorem pX6_knot_e    (a0 : Nat) (a1 : Int32) (a2 : Int32) (a3 : Int32) (h : xH) : S emI kX6_knot h 0 [(0, .ref a0), (1, .int a1), (2, .int a2), (3, .int a3)] [] h (fX6_knot  a0 a1 a2 a3 h) := by
  unfold fX6_knot
  refine s_iload_n (pc := 0) (k0 := 1) (i := 1) rfl 1 rfl (by decide +kernel) ?_
  refine s_cSi (pc := 1) [.int a1] (tX6_isStore a1 h) cw_X6_97 rfl ⟨⟨Nat.le_of_ble_eq_true rfl, Nat.le_of_ble_eq_true rfl⟩, Nat.le_of_ble_eq_true rfl⟩ rfl (by decide +kernel) (fun w3 g1 e2 => ?_)
  refine s_if_eq (pc := 4) (off := 20) 24 (by decide +kernel) (by decide) (fun _ => ?_) (fun _ => ?_)
  · refine s_ldc (pc := 24) (v := (-2147483648 : Int32)) (index := 238) (gd_of 658 (by decide +kernel) rfl) (by decide +kernel) ?_
    exact s_iret (pc := 26) rfl (by decide +kernel)
  · refine s_iload_n (pc := 7) (k0 := 2) (i := 2) rfl 2 rfl (by decide +kernel) ?_
    refine s_if_lt (pc := 8) (off := 16) 24 (by decide +kernel) (by decide) (fun _ => ?_) (fun _ => ?_)
    · refine s_ldc (pc := 24) (v := (-2147483648 : Int32)) (index := 238) (gd_of 658 (by decide +kernel) rfl) (by decide +kernel) ?_
      exact s_iret (pc := 26) rfl (by decide +kernel)
    · refine s_iload_n (pc := 11) (k0 := 2) (i := 2) rfl 2 rfl (by decide +kernel) ?_
      refine s_aload_n (pc := 12) (k0 := 0) (i := 0) rfl 0 rfl (by decide +kernel) ?_
      refine S_gd (fun c4 => ?_)
      refine s_getR (pc := 13) (k := 0) c4 ft_X6_15 rfl (by decide +kernel) ?_
      refine s_iload_n (pc := 16) (k0 := 1) (i := 1) rfl 1 rfl (by decide +kernel) ?_
      refine S_gd (fun c5 => ?_)
      refine S_gd (fun c6 => ?_)
      refine s_aald (pc := 17) c5 c6 (by decide +kernel) ?_
      refine S_gd (fun c7 => ?_)
      refine s_getI (pc := 18) (k := 0) c7 ft_X6_134 rfl (by decide +kernel) ?_
      refine s_icmp_lt (pc := 21) (off := 6) 27 (by decide +kernel) (by decide) (fun _ => ?_) (fun _ => ?_)
      · refine s_iload_n (pc := 27) (k0 := 3) (i := 3) rfl 3 rfl (by decide +kernel) ?_
        refine S_ite (fun e => ?_) (fun ne0 => ?_)
        · refine s_tableIn (pc := 28) (dflt := 62) (lo := 0) (hi := 2) (offs := #[28, 39, 50]) (len := 28) (off := 28) 56 (by decide +kernel) (by rw [e]; decide) (by rw [e]; decide) (by rw [e]; rfl) (by decide) ?_
          refine s_aload_n (pc := 56) (k0 := 0) (i := 0) rfl 0 rfl (by decide +kernel) ?_
          refine s_getR (pc := 57) (k := 0) c4 ft_X6_15 rfl (by decide +kernel) ?_
          refine s_iload_n (pc := 60) (k0 := 1) (i := 1) rfl 1 rfl (by decide +kernel) ?_
          refine s_aald (pc := 61) c5 c6 (by decide +kernel) ?_
          refine s_iload_n (pc := 62) (k0 := 2) (i := 2) rfl 2 rfl (by decide +kernel) ?_
          refine s_cVi (pc := 63) [.int a2] (tX4_xAt (hR g1 (hR g1 a0 0) a1.toNatClampNeg) a2 g1) c7 cw_X6_239 rfl ⟨⟨Nat.le_of_ble_eq_true rfl, Nat.le_of_ble_eq_true rfl⟩, Nat.le_of_ble_eq_true rfl⟩ rfl (by decide +kernel) (fun w15 g13 e14 => ?_)
          exact s_iret (pc := 66) rfl (by decide +kernel)
        · refine S_ite (fun e => ?_) (fun ne1 => ?_)
          · refine s_tableIn (pc := 28) (dflt := 62) (lo := 0) (hi := 2) (offs := #[28, 39, 50]) (len := 28) (off := 39) 67 (by decide +kernel) (by rw [e]; decide) (by rw [e]; decide) (by rw [e]; rfl) (by decide) ?_
            refine s_aload_n (pc := 67) (k0 := 0) (i := 0) rfl 0 rfl (by decide +kernel) ?_
            refine s_getR (pc := 68) (k := 0) c4 ft_X6_15 rfl (by decide +kernel) ?_
            refine s_iload_n (pc := 71) (k0 := 1) (i := 1) rfl 1 rfl (by decide +kernel) ?_
            refine s_aald (pc := 72) c5 c6 (by decide +kernel) ?_
            refine s_iload_n (pc := 73) (k0 := 2) (i := 2) rfl 2 rfl (by decide +kernel) ?_
            refine s_cVi (pc := 74) [.int a2] (tX4_yAt (hR g1 (hR g1 a0 0) a1.toNatClampNeg) a2 g1) c7 cw_X6_242 rfl ⟨⟨Nat.le_of_ble_eq_true rfl, Nat.le_of_ble_eq_true rfl⟩, Nat.le_of_ble_eq_true rfl⟩ rfl (by decide +kernel) (fun w12 g10 e11 => ?_)
            exact s_iret (pc := 77) rfl (by decide +kernel)
          · refine S_ite (fun e => ?_) (fun ne2 => ?_)
            · refine s_tableIn (pc := 28) (dflt := 62) (lo := 0) (hi := 2) (offs := #[28, 39, 50]) (len := 28) (off := 50) 78 (by decide +kernel) (by rw [e]; decide) (by rw [e]; decide) (by rw [e]; rfl) (by decide) ?_
              refine s_aload_n (pc := 78) (k0 := 0) (i := 0) rfl 0 rfl (by decide +kernel) ?_
              refine s_getR (pc := 79) (k := 0) c4 ft_X6_15 rfl (by decide +kernel) ?_
              refine s_iload_n (pc := 82) (k0 := 1) (i := 1) rfl 1 rfl (by decide +kernel) ?_
              refine s_aald (pc := 83) c5 c6 (by decide +kernel) ?_
              refine s_getR (pc := 84) (k := 5) c7 ft_X6_235 rfl (by decide +kernel) ?_
              refine s_iload_n (pc := 87) (k0 := 2) (i := 2) rfl 2 rfl (by decide +kernel) ?_
              refine S_gd (fun c8 => ?_)
              refine S_gd (fun c9 => ?_)
              refine s_iald (pc := 88) c8 c9 (by decide +kernel) ?_
              exact s_iret (pc := 89) rfl (by decide +kernel)
            · have tn0 := tb_ne ne0 (n := 0) (by decide)
              have tn1 := tb_ne ne1 (n := 1) (by decide)
              have tn2 := tb_ne ne2 (n := 2) (by decide)
              refine s_tableOut (pc := 28) (dflt := 62) (lo := 0) (hi := 2) (offs := #[28, 39, 50]) (len := 28) 90 (by decide +kernel) (by omega) (by decide) ?_
              refine s_ldc (pc := 90) (v := (-2147483648 : Int32)) (index := 238) (gd_of 658 (by decide +kernel) rfl) (by decide +kernel) ?_
              exact s_iret (pc := 92) rfl (by decide +kernel)
      · refine s_ldc (pc := 24) (v := (-2147483648 : Int32)) (index := 238) (gd_of 658 (by decide +kernel) rfl) (by decide +kernel) ?_
        exact s_iret (pc := 26) rfl (by decide +kernel)
theorem tX6_knot (a0 : Nat) (a1 : Int32) (a2 : Int32) (a3 : Int32) (h : xH) : Ct yX6_knot kX6_knot emI [.ref a0, .int a1, .int a2, .int a3] h (fX6_knot a0 a1 a2 a3 h) := Ct_of (by decide +kernel) rfl rfl rfl (Nat.le_of_ble_eq_true rfl) rfl (pX6_knot_e a0 a1 a2 a3 h)
def fX6_isUpperOrLower_b9    (h : xH) : Option (Int32 × xH) :=
  some ((1 : Int32), h)
def fX6_isUpperOrLower   (a0 : Int32) (h : xH) : Option (Int32 × xH) :=
  if a0 = 0 then (
  fX6_isUpperOrLower_b9 h)
  else (
  if a0 = (1 : Int32) then (
  fX6_isUpperOrLower_b9 h)
  else (
  some ((0 : Int32), h)))
theorem pX6_isUpperOrLower_b9 {h0 : xH}     (h : xH) : S emI kX6_isUpperOrLower h0 9 [] [] h (fX6_isUpperOrLower_b9  h) := by
  unfold fX6_isUpperOrLower_b9
  refine s_iconst (pc := 9) (n := 1) (v := (1 : Int32)) (by decide) (by decide +kernel) ?_
  refine s_goto (pc := 10) (off := 4) 14 (by decide +kernel) (by decide) ?_
  exact s_zret (pc := 14) (by decide) rfl (by decide +kernel)
theorem pX6_isUpperOrLower_e    (a0 : Int32) (h : xH) : S emI kX6_isUpperOrLower h 0 [(0, .int a0)] [] h (fX6_isUpperOrLower  a0 h) := by
  unfold fX6_isUpperOrLower
  refine s_iload_n (pc := 0) (k0 := 0) (i := 0) rfl 0 rfl (by decide +kernel) ?_
  refine s_if_eq (pc := 1) (off := 8) 9 (by decide +kernel) (by decide) (fun _ => ?_) (fun _ => ?_)
  · refine S_sub [] rfl ?_
    exact pX6_isUpperOrLower_b9 h
  · refine s_iload_n (pc := 4) (k0 := 0) (i := 0) rfl 0 rfl (by decide +kernel) ?_
    refine s_iconst (pc := 5) (n := 1) (v := (1 : Int32)) (by decide) (by decide +kernel) ?_
    refine s_icmp_ne (pc := 6) (off := 7) 13 (by decide +kernel) (by decide) (fun _ => ?_) (fun _ => ?_)
    · refine S_sub [] rfl ?_
      exact pX6_isUpperOrLower_b9 h
    · refine s_iconst (pc := 13) (n := 0) (v := (0 : Int32)) (by decide) (by decide +kernel) ?_
      exact s_zret (pc := 14) (by decide) rfl (by decide +kernel)
theorem tX6_isUpperOrLower (a0 : Int32) (h : xH) : Ct yX6_isUpperOrLower kX6_isUpperOrLower emI [.int a0] h (fX6_isUpperOrLower a0 h) := Ct_of (by decide +kernel) rfl rfl rfl (Nat.le_of_ble_eq_true rfl) rfl (pX6_isUpperOrLower_e a0 h)
def fX6_value   (a0 : Nat) (a1 : Int32) (a2 : Int32) (a3 : Int32) (h : xH) : Option (Int64 × xH) :=
  bd (fX6_isStore a1 h) (fun w3 g1 =>
  if w3 = 0 then (
  some ((-9223372036854775808 : Int64), g1))
  else (
  bd (fX6_isPlace a2.toInt64 g1) (fun w6 g4 =>
  if w6 = 0 then (
  some ((-9223372036854775808 : Int64), g4))
  else (
  bd (fX6_isUpperOrLower a3 g4) (fun w9 g7 =>
  if w9 = 0 then (
  some ((-9223372036854775808 : Int64), g7))
  else (
  if kc g7 a0 = 6 then
  if kc g7 (hR g7 a0 0) = 12 then
  if ix a1 (kl g7 (hR g7 a0 0)) then
  if kc g7 (hR g7 (hR g7 a0 0) a1.toNatClampNeg) = 4 then
  bd (fX4_valueAt (hR g7 (hR g7 a0 0) a1.toNatClampNeg) a2 (hR g7 a0 11) g7) (fun _ g14 =>
  bd (fX6_tellNumber (hR g14 a0 11) a3 g14) (fun w19 g17 =>
  some (w19, g17)))
  else none
  else none
  else none
  else none))))))
theorem pX6_value_e    (a0 : Nat) (a1 : Int32) (a2 : Int32) (a3 : Int32) (h : xH) : S emJ kX6_value h 0 [(0, .ref a0), (1, .int a1), (2, .int a2), (3, .int a3)] [] h (fX6_value  a0 a1 a2 a3 h) := by
  unfold fX6_value
  refine s_iload_n (pc := 0) (k0 := 1) (i := 1) rfl 1 rfl (by decide +kernel) ?_
  refine s_cSi (pc := 1) [.int a1] (tX6_isStore a1 h) cw_X6_97 rfl ⟨⟨Nat.le_of_ble_eq_true rfl, Nat.le_of_ble_eq_true rfl⟩, Nat.le_of_ble_eq_true rfl⟩ rfl (by decide +kernel) (fun w3 g1 e2 => ?_)
  refine s_if_eq (pc := 4) (off := 18) 22 (by decide +kernel) (by decide) (fun _ => ?_) (fun _ => ?_)
  · refine s_ldc2 (pc := 22) (v := (-9223372036854775808 : Int64)) (index := 212) (gd_of 641 (by decide +kernel) rfl) (by decide +kernel) ?_
    exact s_lret (pc := 25) rfl (by decide +kernel)
  · refine s_iload_n (pc := 7) (k0 := 2) (i := 2) rfl 2 rfl (by decide +kernel) ?_
    refine s_i2l (pc := 8) (by decide +kernel) ?_
    refine s_cSi (pc := 9) [.long a2.toInt64] (tX6_isPlace a2.toInt64 g1) cw_X6_123 rfl ⟨⟨Nat.le_of_ble_eq_true rfl, Nat.le_of_ble_eq_true rfl⟩, Nat.le_of_ble_eq_true rfl⟩ rfl (by decide +kernel) (fun w6 g4 e5 => ?_)
    refine s_if_eq (pc := 12) (off := 10) 22 (by decide +kernel) (by decide) (fun _ => ?_) (fun _ => ?_)
    · refine s_ldc2 (pc := 22) (v := (-9223372036854775808 : Int64)) (index := 212) (gd_of 641 (by decide +kernel) rfl) (by decide +kernel) ?_
      exact s_lret (pc := 25) rfl (by decide +kernel)
    · refine s_iload_n (pc := 15) (k0 := 3) (i := 3) rfl 3 rfl (by decide +kernel) ?_
      refine s_cSi (pc := 16) [.int a3] (tX6_isUpperOrLower a3 g4) cw_X6_245 rfl ⟨⟨Nat.le_of_ble_eq_true rfl, Nat.le_of_ble_eq_true rfl⟩, Nat.le_of_ble_eq_true rfl⟩ rfl (by decide +kernel) (fun w9 g7 e8 => ?_)
      refine s_if_ne (pc := 19) (off := 7) 26 (by decide +kernel) (by decide) (fun _ => ?_) (fun _ => ?_)
      · refine s_ldc2 (pc := 22) (v := (-9223372036854775808 : Int64)) (index := 212) (gd_of 641 (by decide +kernel) rfl) (by decide +kernel) ?_
        exact s_lret (pc := 25) rfl (by decide +kernel)
      · refine s_aload_n (pc := 26) (k0 := 0) (i := 0) rfl 0 rfl (by decide +kernel) ?_
        refine S_gd (fun c10 => ?_)
        refine s_getR (pc := 27) (k := 0) c10 ft_X6_15 rfl (by decide +kernel) ?_
        refine s_iload_n (pc := 30) (k0 := 1) (i := 1) rfl 1 rfl (by decide +kernel) ?_
        refine S_gd (fun c11 => ?_)
        refine S_gd (fun c12 => ?_)
        refine s_aald (pc := 31) c11 c12 (by decide +kernel) ?_
        refine s_iload_n (pc := 32) (k0 := 2) (i := 2) rfl 2 rfl (by decide +kernel) ?_
        refine s_aload_n (pc := 33) (k0 := 0) (i := 0) rfl 0 rfl (by decide +kernel) ?_
        refine s_getR (pc := 34) (k := 11) c10 ft_X6_71 rfl (by decide +kernel) ?_
        refine S_gd (fun c13 => ?_)
        refine s_cVv (pc := 37) [.int a2, .ref (hR g7 a0 11)] (tX4_valueAt (hR g7 (hR g7 a0 0) a1.toNatClampNeg) a2 (hR g7 a0 11) g7) c13 cw_X6_248 rfl ⟨⟨Nat.le_of_ble_eq_true rfl, Nat.le_of_ble_eq_true rfl⟩, Nat.le_of_ble_eq_true rfl⟩ rfl (by decide +kernel) (fun _ g14 e15 => ?_)
        refine s_aload_n (pc := 40) (k0 := 0) (i := 0) rfl 0 rfl (by decide +kernel) ?_
        have c16 := kp e15 c10 (by decide)
        refine s_getR (pc := 41) (k := 11) c16 ft_X6_71 rfl (by decide +kernel) ?_
        refine s_iload_n (pc := 44) (k0 := 3) (i := 3) rfl 3 rfl (by decide +kernel) ?_
        refine s_cSj (pc := 45) [.ref (hR g14 a0 11), .int a3] (tX6_tellNumber (hR g14 a0 11) a3 g14) cw_X6_225 rfl ⟨⟨Nat.le_of_ble_eq_true rfl, Nat.le_of_ble_eq_true rfl⟩, Nat.le_of_ble_eq_true rfl⟩ rfl (by decide +kernel) (fun w19 g17 e18 => ?_)
        exact s_lret (pc := 48) rfl (by decide +kernel)
theorem tX6_value (a0 : Nat) (a1 : Int32) (a2 : Int32) (a3 : Int32) (h : xH) : Ct yX6_value kX6_value emJ [.ref a0, .int a1, .int a2, .int a3] h (fX6_value a0 a1 a2 a3 h) := Ct_of (by decide +kernel) rfl rfl rfl (Nat.le_of_ble_eq_true rfl) rfl (pX6_value_e a0 a1 a2 a3 h)
def fX6_bitsOf_b95   (a1 : Int32) (a2 : UInt32) (a3 : Int32) (h : xH) : Option (Int32 × xH) :=
  if FP.fmul a2 (1258291200 : UInt32) &&& 0x7fffffff ≤ 0x7f800000 then
  lt ((FP.f2i (FP.fmul a2 (1258291200 : UInt32))) - (8388608 : Int32)) (fun v1 =>
  some (((a1 ||| (a3 <<< ((23 : Int32) &&& 31))) ||| v1), h))
  else none
def fX6_bitsOf_b69 (r69 : Int32 → UInt32 → Int32 → Int32 → xH → Option (Int32 × xH))  (a1 : Int32) (a2 : UInt32) (a3 : Int32) (a4 : Int32) (h : xH) : Option (Int32 × xH) :=
  if (126 : Int32) ≤ a4 then (
  fX6_bitsOf_b95 a1 a2 a3 h)
  else (
  if 0 ≤ (Op.cmpValue (FP.fcmp a2 FP.fconst1) .g) then (
  fX6_bitsOf_b95 a1 a2 a3 h)
  else (
  if FP.fmul a2 FP.fconst2 &&& 0x7fffffff ≤ 0x7f800000 then
  lt (FP.fmul a2 FP.fconst2) (fun v1 =>
  lt (a3 + (-1 : Int32)) (fun v2 =>
  lt (a4 + (1 : Int32)) (fun v3 =>
  r69 a1 v1 v2 v3 h)))
  else none))
def fX6_bitsOf_l69  : Nat → Int32 → UInt32 → Int32 → Int32 → xH → Option (Int32 × xH)
  | 0 => fun _ _ _ _ _ => none
  | k + 1 => fX6_bitsOf_b69 (fX6_bitsOf_l69  k)
def fX6_bitsOf_b66   (a1 : Int32) (a2 : UInt32) (a3 : Int32) (h : xH) : Option (Int32 × xH) :=
  lt (0 : Int32) (fun v1 =>
  fX6_bitsOf_l69 FU a1 a2 a3 v1 h)
def fX6_bitsOf_b40 (r40 : Int32 → UInt32 → Int32 → Int32 → xH → Option (Int32 × xH))  (a1 : Int32) (a2 : UInt32) (a3 : Int32) (a4 : Int32) (h : xH) : Option (Int32 × xH) :=
  if (127 : Int32) ≤ a4 then (
  fX6_bitsOf_b66 a1 a2 a3 h)
  else (
  if (Op.cmpValue (FP.fcmp a2 FP.fconst2) .l) < 0 then (
  fX6_bitsOf_b66 a1 a2 a3 h)
  else (
  if FP.fdiv a2 FP.fconst2 &&& 0x7fffffff ≤ 0x7f800000 then
  lt (FP.fdiv a2 FP.fconst2) (fun v1 =>
  lt (a3 + (1 : Int32)) (fun v2 =>
  lt (a4 + (1 : Int32)) (fun v3 =>
  r40 a1 v1 v2 v3 h)))
  else none))
def fX6_bitsOf_l40  : Nat → Int32 → UInt32 → Int32 → Int32 → xH → Option (Int32 × xH)
  | 0 => fun _ _ _ _ _ => none
  | k + 1 => fX6_bitsOf_b40 (fX6_bitsOf_l40  k)
def fX6_bitsOf_b33  (s0 : UInt32) (a1 : Int32) (h : xH) : Option (Int32 × xH) :=
  lt (127 : Int32) (fun v1 =>
  lt (0 : Int32) (fun v2 =>
  fX6_bitsOf_l40 FU a1 s0 v1 v2 h))
def fX6_bitsOf_b20  (s0 : Int32) (a0 : UInt32) (h : xH) : Option (Int32 × xH) :=
  if 0 ≤ (Op.cmpValue (FP.fcmp a0 FP.fconst0) .g) then (
  fX6_bitsOf_b33 a0 s0 h)
  else (
  fX6_bitsOf_b33 (FP.fneg a0) s0 h)
def fX6_bitsOf   (a0 : UInt32) (h : xH) : Option (Int32 × xH) :=
  if (Op.cmpValue (FP.fcmp a0 FP.fconst0) .l) = 0 then (
  some ((0 : Int32), h))
  else (
  if 0 ≤ (Op.cmpValue (FP.fcmp a0 FP.fconst0) .g) then (
  fX6_bitsOf_b20 (0 : Int32) a0 h)
  else (
  fX6_bitsOf_b20 (-2147483648 : Int32) a0 h))
theorem pX6_bitsOf_b95 {h0 : xH}    (a1 : Int32) (a2 : UInt32) (a3 : Int32) (h : xH) : S emI kX6_bitsOf h0 95 [(1, .int a1), (2, .float a2), (3, .int a3)] [] h (fX6_bitsOf_b95  a1 a2 a3 h) := by
  unfold fX6_bitsOf_b95
  refine s_fload_n (pc := 95) (k0 := 2) (i := 2) rfl 1 rfl (by decide +kernel) ?_
  refine s_ldcwf (pc := 96) (v := (1258291200 : UInt32)) (index := 269) (gd_of 696 (by decide +kernel) rfl) (by decide +kernel) ?_
  refine s_fmul (pc := 99) (by decide +kernel) ?_
  refine s_f2i (pc := 100) (by decide +kernel) ?_
  refine s_ldcw (pc := 101) (v := (8388608 : Int32)) (index := 270) (gd_of 697 (by decide +kernel) rfl) (by decide +kernel) ?_
  refine s_isub (pc := 104) (by decide +kernel) ?_
  refine s_nmI (fun v1 => ?_)
  refine s_istore (pc := 105) (L' := [(4, .int v1), (1, .int a1), (2, .float a2), (3, .int a3)]) (i := 4) (by decide) rfl (by decide +kernel) ?_
  refine s_iload_n (pc := 107) (k0 := 1) (i := 1) rfl 1 rfl (by decide +kernel) ?_
  refine s_iload_n (pc := 108) (k0 := 3) (i := 3) rfl 3 rfl (by decide +kernel) ?_
  refine s_bipush (pc := 109) (n := 23) (v := (23 : Int32)) (by decide) (by decide +kernel) ?_
  refine s_ishl (pc := 111) (by decide +kernel) ?_
  refine s_ior (pc := 112) (by decide +kernel) ?_
  refine s_iload (pc := 113) (i := 4) 0 rfl (by decide +kernel) ?_
  refine s_ior (pc := 115) (by decide +kernel) ?_
  exact s_iret (pc := 116) rfl (by decide +kernel)
theorem pX6_bitsOf_b69 {h0 : xH} {r69 : Int32 → UInt32 → Int32 → Int32 → xH → Option (Int32 × xH)} (hr69 : ∀  (a1 : Int32) (a2 : UInt32) (a3 : Int32) (a4 : Int32) (g : xH), S emI kX6_bitsOf h0 69 [(1, .int a1), (2, .float a2), (3, .int a3), (4, .int a4)] [] g (r69  a1 a2 a3 a4 g))  (a1 : Int32) (a2 : UInt32) (a3 : Int32) (a4 : Int32) (h : xH) : S emI kX6_bitsOf h0 69 [(1, .int a1), (2, .float a2), (3, .int a3), (4, .int a4)] [] h (fX6_bitsOf_b69 r69 a1 a2 a3 a4 h) := by
  unfold fX6_bitsOf_b69
  refine s_iload (pc := 69) (i := 4) 3 rfl (by decide +kernel) ?_
  refine s_bipush (pc := 71) (n := 126) (v := (126 : Int32)) (by decide) (by decide +kernel) ?_
  refine s_icmp_ge (pc := 73) (off := 22) 95 (by decide +kernel) (by decide) (fun _ => ?_) (fun _ => ?_)
  · refine S_sub [0, 1, 2] rfl ?_
    exact pX6_bitsOf_b95 a1 a2 a3 h
  · refine s_fload_n (pc := 76) (k0 := 2) (i := 2) rfl 1 rfl (by decide +kernel) ?_
    refine s_fconst1 (pc := 77) (by decide +kernel) ?_
    refine s_fcmp (pc := 78) (op := .g) (by decide +kernel) ?_
    refine s_if_ge (pc := 79) (off := 16) 95 (by decide +kernel) (by decide) (fun _ => ?_) (fun _ => ?_)
    · refine S_sub [0, 1, 2] rfl ?_
      exact pX6_bitsOf_b95 a1 a2 a3 h
    · refine s_fload_n (pc := 82) (k0 := 2) (i := 2) rfl 1 rfl (by decide +kernel) ?_
      refine s_fconst2 (pc := 83) (by decide +kernel) ?_
      refine s_fmul (pc := 84) (by decide +kernel) ?_
      refine s_nmF (fun v1 => ?_)
      refine s_fstore_n (pc := 85) (L' := [(2, .float v1), (1, .int a1), (3, .int a3), (4, .int a4)]) (k0 := 2) (i := 2) rfl (by decide) rfl (by decide +kernel) ?_
      refine s_iinc (pc := 86) (L' := [(3, .int (a3 + (-1 : Int32))), (2, .float v1), (1, .int a1), (4, .int a4)]) (i := 3) (n := -1) 2 rfl rfl (by decide) rfl (by decide +kernel) ?_
      refine s_nmI0 (e := a3 + (-1 : Int32)) (L := fun v2 => [(3, .int v2), (2, .float v1), (1, .int a1), (4, .int a4)]) (fun v2 => ?_)
      refine s_iinc (pc := 89) (L' := [(4, .int (a4 + (1 : Int32))), (3, .int v2), (2, .float v1), (1, .int a1)]) (i := 4) (n := 1) 3 rfl rfl (by decide) rfl (by decide +kernel) ?_
      refine s_nmI0 (e := a4 + (1 : Int32)) (L := fun v3 => [(4, .int v3), (3, .int v2), (2, .float v1), (1, .int a1)]) (fun v3 => ?_)
      refine s_goto (pc := 92) (off := -23) 69 (by decide +kernel) (by decide) ?_
      refine S_sub [3, 2, 1, 0] rfl ?_
      exact hr69 a1 v1 v2 v3 h
theorem pX6_bitsOf_l69 {h0 : xH}   : ∀ (k : Nat)  (a1 : Int32) (a2 : UInt32) (a3 : Int32) (a4 : Int32) (h : xH), S emI kX6_bitsOf h0 69 [(1, .int a1), (2, .float a2), (3, .int a3), (4, .int a4)] [] h (fX6_bitsOf_l69  k  a1 a2 a3 a4 h) := by
  intro k
  induction k with
  | zero => intros; exact S_none
  | succ k ih => intro  a1 a2 a3 a4 h; exact pX6_bitsOf_b69 ih  a1 a2 a3 a4 h
theorem pX6_bitsOf_b66 {h0 : xH}    (a1 : Int32) (a2 : UInt32) (a3 : Int32) (h : xH) : S emI kX6_bitsOf h0 66 [(1, .int a1), (2, .float a2), (3, .int a3)] [] h (fX6_bitsOf_b66  a1 a2 a3 h) := by
  unfold fX6_bitsOf_b66
  refine s_iconst (pc := 66) (n := 0) (v := (0 : Int32)) (by decide) (by decide +kernel) ?_
  refine s_nmI (fun v1 => ?_)
  refine s_istore (pc := 67) (L' := [(4, .int v1), (1, .int a1), (2, .float a2), (3, .int a3)]) (i := 4) (by decide) rfl (by decide +kernel) ?_
  refine S_sub [1, 2, 3, 0] rfl ?_
  exact pX6_bitsOf_l69 FU a1 a2 a3 v1 h
theorem pX6_bitsOf_b40 {h0 : xH} {r40 : Int32 → UInt32 → Int32 → Int32 → xH → Option (Int32 × xH)} (hr40 : ∀  (a1 : Int32) (a2 : UInt32) (a3 : Int32) (a4 : Int32) (g : xH), S emI kX6_bitsOf h0 40 [(1, .int a1), (2, .float a2), (3, .int a3), (4, .int a4)] [] g (r40  a1 a2 a3 a4 g))  (a1 : Int32) (a2 : UInt32) (a3 : Int32) (a4 : Int32) (h : xH) : S emI kX6_bitsOf h0 40 [(1, .int a1), (2, .float a2), (3, .int a3), (4, .int a4)] [] h (fX6_bitsOf_b40 r40 a1 a2 a3 a4 h) := by
  unfold fX6_bitsOf_b40
  refine s_iload (pc := 40) (i := 4) 3 rfl (by decide +kernel) ?_
  refine s_bipush (pc := 42) (n := 127) (v := (127 : Int32)) (by decide) (by decide +kernel) ?_
  refine s_icmp_ge (pc := 44) (off := 22) 66 (by decide +kernel) (by decide) (fun _ => ?_) (fun _ => ?_)
  · refine S_sub [0, 1, 2] rfl ?_
    exact pX6_bitsOf_b66 a1 a2 a3 h
  · refine s_fload_n (pc := 47) (k0 := 2) (i := 2) rfl 1 rfl (by decide +kernel) ?_
    refine s_fconst2 (pc := 48) (by decide +kernel) ?_
    refine s_fcmp (pc := 49) (op := .l) (by decide +kernel) ?_
    refine s_if_lt (pc := 50) (off := 16) 66 (by decide +kernel) (by decide) (fun _ => ?_) (fun _ => ?_)
    · refine S_sub [0, 1, 2] rfl ?_
      exact pX6_bitsOf_b66 a1 a2 a3 h
    · refine s_fload_n (pc := 53) (k0 := 2) (i := 2) rfl 1 rfl (by decide +kernel) ?_
      refine s_fconst2 (pc := 54) (by decide +kernel) ?_
      refine s_fdiv (pc := 55) (by decide +kernel) ?_
      refine s_nmF (fun v1 => ?_)
      refine s_fstore_n (pc := 56) (L' := [(2, .float v1), (1, .int a1), (3, .int a3), (4, .int a4)]) (k0 := 2) (i := 2) rfl (by decide) rfl (by decide +kernel) ?_
      refine s_iinc (pc := 57) (L' := [(3, .int (a3 + (1 : Int32))), (2, .float v1), (1, .int a1), (4, .int a4)]) (i := 3) (n := 1) 2 rfl rfl (by decide) rfl (by decide +kernel) ?_
      refine s_nmI0 (e := a3 + (1 : Int32)) (L := fun v2 => [(3, .int v2), (2, .float v1), (1, .int a1), (4, .int a4)]) (fun v2 => ?_)
      refine s_iinc (pc := 60) (L' := [(4, .int (a4 + (1 : Int32))), (3, .int v2), (2, .float v1), (1, .int a1)]) (i := 4) (n := 1) 3 rfl rfl (by decide) rfl (by decide +kernel) ?_
      refine s_nmI0 (e := a4 + (1 : Int32)) (L := fun v3 => [(4, .int v3), (3, .int v2), (2, .float v1), (1, .int a1)]) (fun v3 => ?_)
      refine s_goto (pc := 63) (off := -23) 40 (by decide +kernel) (by decide) ?_
      refine S_sub [3, 2, 1, 0] rfl ?_
      exact hr40 a1 v1 v2 v3 h
theorem pX6_bitsOf_l40 {h0 : xH}   : ∀ (k : Nat)  (a1 : Int32) (a2 : UInt32) (a3 : Int32) (a4 : Int32) (h : xH), S emI kX6_bitsOf h0 40 [(1, .int a1), (2, .float a2), (3, .int a3), (4, .int a4)] [] h (fX6_bitsOf_l40  k  a1 a2 a3 a4 h) := by
  intro k
  induction k with
  | zero => intros; exact S_none
  | succ k ih => intro  a1 a2 a3 a4 h; exact pX6_bitsOf_b40 ih  a1 a2 a3 a4 h
theorem pX6_bitsOf_b33 {h0 : xH}   (s0 : UInt32) (a1 : Int32) (h : xH) : S emI kX6_bitsOf h0 33 [(1, .int a1)] [.float s0] h (fX6_bitsOf_b33 s0 a1 h) := by
  unfold fX6_bitsOf_b33
  refine s_fstore_n (pc := 33) (L' := [(2, .float s0), (1, .int a1)]) (k0 := 2) (i := 2) rfl (by decide) rfl (by decide +kernel) ?_
  refine s_bipush (pc := 34) (n := 127) (v := (127 : Int32)) (by decide) (by decide +kernel) ?_
  refine s_nmI (fun v1 => ?_)
  refine s_istore_n (pc := 36) (L' := [(3, .int v1), (2, .float s0), (1, .int a1)]) (k0 := 3) (i := 3) rfl (by decide) rfl (by decide +kernel) ?_
  refine s_iconst (pc := 37) (n := 0) (v := (0 : Int32)) (by decide) (by decide +kernel) ?_
  refine s_nmI (fun v2 => ?_)
  refine s_istore (pc := 38) (L' := [(4, .int v2), (3, .int v1), (2, .float s0), (1, .int a1)]) (i := 4) (by decide) rfl (by decide +kernel) ?_
  refine S_sub [3, 2, 1, 0] rfl ?_
  exact pX6_bitsOf_l40 FU a1 s0 v1 v2 h
theorem pX6_bitsOf_b20 {h0 : xH}   (s0 : Int32) (a0 : UInt32) (h : xH) : S emI kX6_bitsOf h0 20 [(0, .float a0)] [.int s0] h (fX6_bitsOf_b20 s0 a0 h) := by
  unfold fX6_bitsOf_b20
  refine s_istore_n (pc := 20) (L' := [(1, .int s0), (0, .float a0)]) (k0 := 1) (i := 1) rfl (by decide) rfl (by decide +kernel) ?_
  refine s_fload_n (pc := 21) (k0 := 0) (i := 0) rfl 1 rfl (by decide +kernel) ?_
  refine s_fconst0 (pc := 22) (by decide +kernel) ?_
  refine s_fcmp (pc := 23) (op := .g) (by decide +kernel) ?_
  refine s_if_ge (pc := 24) (off := 8) 32 (by decide +kernel) (by decide) (fun _ => ?_) (fun _ => ?_)
  · refine s_fload_n (pc := 32) (k0 := 0) (i := 0) rfl 1 rfl (by decide +kernel) ?_
    refine S_sub [0] rfl ?_
    exact pX6_bitsOf_b33 a0 s0 h
  · refine s_fload_n (pc := 27) (k0 := 0) (i := 0) rfl 1 rfl (by decide +kernel) ?_
    refine s_fneg (pc := 28) (by decide +kernel) ?_
    refine s_goto (pc := 29) (off := 4) 33 (by decide +kernel) (by decide) ?_
    refine S_sub [0] rfl ?_
    exact pX6_bitsOf_b33 (FP.fneg a0) s0 h
theorem pX6_bitsOf_e    (a0 : UInt32) (h : xH) : S emI kX6_bitsOf h 0 [(0, .float a0)] [] h (fX6_bitsOf  a0 h) := by
  unfold fX6_bitsOf
  refine s_fload_n (pc := 0) (k0 := 0) (i := 0) rfl 0 rfl (by decide +kernel) ?_
  refine s_fconst0 (pc := 1) (by decide +kernel) ?_
  refine s_fcmp (pc := 2) (op := .l) (by decide +kernel) ?_
  refine s_if_ne (pc := 3) (off := 5) 8 (by decide +kernel) (by decide) (fun _ => ?_) (fun _ => ?_)
  · refine s_iconst (pc := 6) (n := 0) (v := (0 : Int32)) (by decide) (by decide +kernel) ?_
    exact s_iret (pc := 7) rfl (by decide +kernel)
  · refine s_fload_n (pc := 8) (k0 := 0) (i := 0) rfl 0 rfl (by decide +kernel) ?_
    refine s_fconst0 (pc := 9) (by decide +kernel) ?_
    refine s_fcmp (pc := 10) (op := .g) (by decide +kernel) ?_
    refine s_if_ge (pc := 11) (off := 8) 19 (by decide +kernel) (by decide) (fun _ => ?_) (fun _ => ?_)
    · refine s_iconst (pc := 19) (n := 0) (v := (0 : Int32)) (by decide) (by decide +kernel) ?_
      exact pX6_bitsOf_b20 (0 : Int32) a0 h
    · refine s_ldc (pc := 14) (v := (-2147483648 : Int32)) (index := 238) (gd_of 658 (by decide +kernel) rfl) (by decide +kernel) ?_
      refine s_goto (pc := 16) (off := 4) 20 (by decide +kernel) (by decide) ?_
      exact pX6_bitsOf_b20 (-2147483648 : Int32) a0 h
theorem tX6_bitsOf (a0 : UInt32) (h : xH) : Ct yX6_bitsOf kX6_bitsOf emI [.float a0] h (fX6_bitsOf a0 h) := Ct_of (by decide +kernel) rfl rfl rfl (Nat.le_of_ble_eq_true rfl) rfl (pX6_bitsOf_e a0 h)
def fX6_bits   (a0 : Nat) (a1 : Int32) (a2 : Int32) (h : xH) : Option (Int32 × xH) :=
  bd (fX6_isStore a1 h) (fun w3 g1 =>
  if w3 = 0 then (
  some ((0 : Int32), g1))
  else (
  bd (fX6_isPlace a2.toInt64 g1) (fun w6 g4 =>
  if w6 = 0 then (
  some ((0 : Int32), g4))
  else (
  if kc g4 a0 = 6 then
  if kc g4 (hR g4 a0 0) = 12 then
  if ix a1 (kl g4 (hR g4 a0 0)) then
  if kc g4 (hR g4 (hR g4 a0 0) a1.toNatClampNeg) = 4 then
  bd (fX4_valueAt (hR g4 (hR g4 a0 0) a1.toNatClampNeg) a2 (hR g4 a0 11) g4) (fun _ g11 =>
  if kc g11 (hR g11 a0 11) = 2 then
  if (hI g11 (hR g11 a0 11) 0) = 0 then (
  some ((0 : Int32), g11))
  else (
  bd (fX2_assign (hR g11 a0 11) (hJ g11 (hR g11 a0 11) 1) ((hJ g11 (hR g11 a0 11) 2) * (60 : Int64)) g11) (fun _ g15 =>
  if kc g15 (hR g15 a0 11) = 2 then
  if FP.fdiv (FP.l2f (hJ g15 (hR g15 a0 11) 1)) (FP.l2f (hJ g15 (hR g15 a0 11) 2)) &&& 0x7fffffff ≤ 0x7f800000 then
  bd (fX6_bitsOf (FP.fdiv (FP.l2f (hJ g15 (hR g15 a0 11) 1)) (FP.l2f (hJ g15 (hR g15 a0 11) 2))) g15) (fun w21 g19 =>
  some (w21, g19))
  else none
  else none))
  else none)
  else none
  else none
  else none
  else none))))
theorem pX6_bits_e    (a0 : Nat) (a1 : Int32) (a2 : Int32) (h : xH) : S emI kX6_bits h 0 [(0, .ref a0), (1, .int a1), (2, .int a2)] [] h (fX6_bits  a0 a1 a2 h) := by
  unfold fX6_bits
  refine s_iload_n (pc := 0) (k0 := 1) (i := 1) rfl 1 rfl (by decide +kernel) ?_
  refine s_cSi (pc := 1) [.int a1] (tX6_isStore a1 h) cw_X6_97 rfl ⟨⟨Nat.le_of_ble_eq_true rfl, Nat.le_of_ble_eq_true rfl⟩, Nat.le_of_ble_eq_true rfl⟩ rfl (by decide +kernel) (fun w3 g1 e2 => ?_)
  refine s_if_eq (pc := 4) (off := 11) 15 (by decide +kernel) (by decide) (fun _ => ?_) (fun _ => ?_)
  · refine s_iconst (pc := 15) (n := 0) (v := (0 : Int32)) (by decide) (by decide +kernel) ?_
    exact s_iret (pc := 16) rfl (by decide +kernel)
  · refine s_iload_n (pc := 7) (k0 := 2) (i := 2) rfl 2 rfl (by decide +kernel) ?_
    refine s_i2l (pc := 8) (by decide +kernel) ?_
    refine s_cSi (pc := 9) [.long a2.toInt64] (tX6_isPlace a2.toInt64 g1) cw_X6_123 rfl ⟨⟨Nat.le_of_ble_eq_true rfl, Nat.le_of_ble_eq_true rfl⟩, Nat.le_of_ble_eq_true rfl⟩ rfl (by decide +kernel) (fun w6 g4 e5 => ?_)
    refine s_if_ne (pc := 12) (off := 5) 17 (by decide +kernel) (by decide) (fun _ => ?_) (fun _ => ?_)
    · refine s_iconst (pc := 15) (n := 0) (v := (0 : Int32)) (by decide) (by decide +kernel) ?_
      exact s_iret (pc := 16) rfl (by decide +kernel)
    · refine s_aload_n (pc := 17) (k0 := 0) (i := 0) rfl 0 rfl (by decide +kernel) ?_
      refine S_gd (fun c7 => ?_)
      refine s_getR (pc := 18) (k := 0) c7 ft_X6_15 rfl (by decide +kernel) ?_
      refine s_iload_n (pc := 21) (k0 := 1) (i := 1) rfl 1 rfl (by decide +kernel) ?_
      refine S_gd (fun c8 => ?_)
      refine S_gd (fun c9 => ?_)
      refine s_aald (pc := 22) c8 c9 (by decide +kernel) ?_
      refine s_iload_n (pc := 23) (k0 := 2) (i := 2) rfl 2 rfl (by decide +kernel) ?_
      refine s_aload_n (pc := 24) (k0 := 0) (i := 0) rfl 0 rfl (by decide +kernel) ?_
      refine s_getR (pc := 25) (k := 11) c7 ft_X6_71 rfl (by decide +kernel) ?_
      refine S_gd (fun c10 => ?_)
      refine s_cVv (pc := 28) [.int a2, .ref (hR g4 a0 11)] (tX4_valueAt (hR g4 (hR g4 a0 0) a1.toNatClampNeg) a2 (hR g4 a0 11) g4) c10 cw_X6_248 rfl ⟨⟨Nat.le_of_ble_eq_true rfl, Nat.le_of_ble_eq_true rfl⟩, Nat.le_of_ble_eq_true rfl⟩ rfl (by decide +kernel) (fun _ g11 e12 => ?_)
      refine s_aload_n (pc := 31) (k0 := 0) (i := 0) rfl 0 rfl (by decide +kernel) ?_
      have c13 := kp e12 c7 (by decide)
      refine s_getR (pc := 32) (k := 11) c13 ft_X6_71 rfl (by decide +kernel) ?_
      refine S_gd (fun c14 => ?_)
      refine s_getI (pc := 35) (k := 0) c14 ft_X6_252 rfl (by decide +kernel) ?_
      refine s_if_ne (pc := 38) (off := 5) 43 (by decide +kernel) (by decide) (fun _ => ?_) (fun _ => ?_)
      · refine s_iconst (pc := 41) (n := 0) (v := (0 : Int32)) (by decide) (by decide +kernel) ?_
        exact s_iret (pc := 42) rfl (by decide +kernel)
      · refine s_aload_n (pc := 43) (k0 := 0) (i := 0) rfl 0 rfl (by decide +kernel) ?_
        refine s_getR (pc := 44) (k := 11) c13 ft_X6_71 rfl (by decide +kernel) ?_
        refine s_aload_n (pc := 47) (k0 := 0) (i := 0) rfl 0 rfl (by decide +kernel) ?_
        refine s_getR (pc := 48) (k := 11) c13 ft_X6_71 rfl (by decide +kernel) ?_
        refine s_getJ (pc := 51) (k := 1) c14 ft_X6_256 rfl (by decide +kernel) ?_
        refine s_aload_n (pc := 54) (k0 := 0) (i := 0) rfl 0 rfl (by decide +kernel) ?_
        refine s_getR (pc := 55) (k := 11) c13 ft_X6_71 rfl (by decide +kernel) ?_
        refine s_getJ (pc := 58) (k := 2) c14 ft_X6_260 rfl (by decide +kernel) ?_
        refine s_ldc2 (pc := 61) (v := (60 : Int64)) (index := 263) (gd_of 650 (by decide +kernel) rfl) (by decide +kernel) ?_
        refine s_lmul (pc := 64) (by decide +kernel) ?_
        refine s_cVv (pc := 65) [.long (hJ g11 (hR g11 a0 11) 1), .long ((hJ g11 (hR g11 a0 11) 2) * (60 : Int64))] (tX2_assign (hR g11 a0 11) (hJ g11 (hR g11 a0 11) 1) ((hJ g11 (hR g11 a0 11) 2) * (60 : Int64)) g11) c14 cw_X6_221 rfl ⟨⟨Nat.le_of_ble_eq_true rfl, Nat.le_of_ble_eq_true rfl⟩, Nat.le_of_ble_eq_true rfl⟩ rfl (by decide +kernel) (fun _ g15 e16 => ?_)
        refine s_aload_n (pc := 68) (k0 := 0) (i := 0) rfl 0 rfl (by decide +kernel) ?_
        have c17 := kp e16 c13 (by decide)
        refine s_getR (pc := 69) (k := 11) c17 ft_X6_71 rfl (by decide +kernel) ?_
        refine S_gd (fun c18 => ?_)
        refine s_getJ (pc := 72) (k := 1) c18 ft_X6_256 rfl (by decide +kernel) ?_
        refine s_l2f (pc := 75) (by decide +kernel) ?_
        refine s_aload_n (pc := 76) (k0 := 0) (i := 0) rfl 0 rfl (by decide +kernel) ?_
        refine s_getR (pc := 77) (k := 11) c17 ft_X6_71 rfl (by decide +kernel) ?_
        refine s_getJ (pc := 80) (k := 2) c18 ft_X6_260 rfl (by decide +kernel) ?_
        refine s_l2f (pc := 83) (by decide +kernel) ?_
        refine s_fdiv (pc := 84) (by decide +kernel) ?_
        refine s_cSi (pc := 85) [.float (FP.fdiv (FP.l2f (hJ g15 (hR g15 a0 11) 1)) (FP.l2f (hJ g15 (hR g15 a0 11) 2)))] (tX6_bitsOf (FP.fdiv (FP.l2f (hJ g15 (hR g15 a0 11) 1)) (FP.l2f (hJ g15 (hR g15 a0 11) 2))) g15) cw_X6_265 rfl ⟨⟨Nat.le_of_ble_eq_true rfl, Nat.le_of_ble_eq_true rfl⟩, Nat.le_of_ble_eq_true rfl⟩ rfl (by decide +kernel) (fun w21 g19 e20 => ?_)
        exact s_iret (pc := 88) rfl (by decide +kernel)
theorem tX6_bits (a0 : Nat) (a1 : Int32) (a2 : Int32) (h : xH) : Ct yX6_bits kX6_bits emI [.ref a0, .int a1, .int a2] h (fX6_bits a0 a1 a2 h) := Ct_of (by decide +kernel) rfl rfl rfl (Nat.le_of_ble_eq_true rfl) rfl (pX6_bits_e a0 a1 a2 h)
def fX6_limit   (a0 : Nat) (a1 : Int32) (a2 : Int32) (a3 : Int32) (h : xH) : Option (Int64 × xH) :=
  bd (fX6_isStore a1 h) (fun w3 g1 =>
  if w3 = 0 then (
  some ((-9223372036854775808 : Int64), g1))
  else (
  bd (fX6_isPlace a2.toInt64 g1) (fun w6 g4 =>
  if w6 = 0 then (
  some ((-9223372036854775808 : Int64), g4))
  else (
  if a3 < 0 then (
  some ((-9223372036854775808 : Int64), g4))
  else (
  if a3 ≤ (3 : Int32) then (
  if (2 : Int32) ≤ a3 then (
  if kc g4 a0 = 6 then
  if kc g4 (hR g4 a0 0) = 12 then
  if ix a1 (kl g4 (hR g4 a0 0)) then
  if kc g4 (hR g4 (hR g4 a0 0) a1.toNatClampNeg) = 4 then
  bd (fX4_rightBeginAt (hR g4 (hR g4 a0 0) a1.toNatClampNeg) a2 (hR g4 a0 11) g4) (fun _ g11 =>
  bd (fX6_tellNumber (hR g11 a0 11) (a3 - (2 : Int32)) g11) (fun w16 g14 =>
  some (w16, g14)))
  else none
  else none
  else none
  else none)
  else (
  if kc g4 a0 = 6 then
  if kc g4 (hR g4 a0 0) = 12 then
  if ix a1 (kl g4 (hR g4 a0 0)) then
  if kc g4 (hR g4 (hR g4 a0 0) a1.toNatClampNeg) = 4 then
  bd (fX4_leftEndAt (hR g4 (hR g4 a0 0) a1.toNatClampNeg) a2 (hR g4 a0 11) g4) (fun _ g21 =>
  bd (fX6_tellNumber (hR g21 a0 11) a3 g21) (fun w26 g24 =>
  some (w26, g24)))
  else none
  else none
  else none
  else none))
  else (
  some ((-9223372036854775808 : Int64), g4)))))))
theorem pX6_limit_e    (a0 : Nat) (a1 : Int32) (a2 : Int32) (a3 : Int32) (h : xH) : S emJ kX6_limit h 0 [(0, .ref a0), (1, .int a1), (2, .int a2), (3, .int a3)] [] h (fX6_limit  a0 a1 a2 a3 h) := by
  unfold fX6_limit
  refine s_iload_n (pc := 0) (k0 := 1) (i := 1) rfl 1 rfl (by decide +kernel) ?_
  refine s_cSi (pc := 1) [.int a1] (tX6_isStore a1 h) cw_X6_97 rfl ⟨⟨Nat.le_of_ble_eq_true rfl, Nat.le_of_ble_eq_true rfl⟩, Nat.le_of_ble_eq_true rfl⟩ rfl (by decide +kernel) (fun w3 g1 e2 => ?_)
  refine s_if_eq (pc := 4) (off := 20) 24 (by decide +kernel) (by decide) (fun _ => ?_) (fun _ => ?_)
  · refine s_ldc2 (pc := 24) (v := (-9223372036854775808 : Int64)) (index := 212) (gd_of 641 (by decide +kernel) rfl) (by decide +kernel) ?_
    exact s_lret (pc := 27) rfl (by decide +kernel)
  · refine s_iload_n (pc := 7) (k0 := 2) (i := 2) rfl 2 rfl (by decide +kernel) ?_
    refine s_i2l (pc := 8) (by decide +kernel) ?_
    refine s_cSi (pc := 9) [.long a2.toInt64] (tX6_isPlace a2.toInt64 g1) cw_X6_123 rfl ⟨⟨Nat.le_of_ble_eq_true rfl, Nat.le_of_ble_eq_true rfl⟩, Nat.le_of_ble_eq_true rfl⟩ rfl (by decide +kernel) (fun w6 g4 e5 => ?_)
    refine s_if_eq (pc := 12) (off := 12) 24 (by decide +kernel) (by decide) (fun _ => ?_) (fun _ => ?_)
    · refine s_ldc2 (pc := 24) (v := (-9223372036854775808 : Int64)) (index := 212) (gd_of 641 (by decide +kernel) rfl) (by decide +kernel) ?_
      exact s_lret (pc := 27) rfl (by decide +kernel)
    · refine s_iload_n (pc := 15) (k0 := 3) (i := 3) rfl 3 rfl (by decide +kernel) ?_
      refine s_if_lt (pc := 16) (off := 8) 24 (by decide +kernel) (by decide) (fun _ => ?_) (fun _ => ?_)
      · refine s_ldc2 (pc := 24) (v := (-9223372036854775808 : Int64)) (index := 212) (gd_of 641 (by decide +kernel) rfl) (by decide +kernel) ?_
        exact s_lret (pc := 27) rfl (by decide +kernel)
      · refine s_iload_n (pc := 19) (k0 := 3) (i := 3) rfl 3 rfl (by decide +kernel) ?_
        refine s_iconst (pc := 20) (n := 3) (v := (3 : Int32)) (by decide) (by decide +kernel) ?_
        refine s_icmp_le (pc := 21) (off := 7) 28 (by decide +kernel) (by decide) (fun _ => ?_) (fun _ => ?_)
        · refine s_iload_n (pc := 28) (k0 := 3) (i := 3) rfl 3 rfl (by decide +kernel) ?_
          refine s_iconst (pc := 29) (n := 2) (v := (2 : Int32)) (by decide) (by decide +kernel) ?_
          refine s_icmp_ge (pc := 30) (off := 26) 56 (by decide +kernel) (by decide) (fun _ => ?_) (fun _ => ?_)
          · refine s_aload_n (pc := 56) (k0 := 0) (i := 0) rfl 0 rfl (by decide +kernel) ?_
            refine S_gd (fun c7 => ?_)
            refine s_getR (pc := 57) (k := 0) c7 ft_X6_15 rfl (by decide +kernel) ?_
            refine s_iload_n (pc := 60) (k0 := 1) (i := 1) rfl 1 rfl (by decide +kernel) ?_
            refine S_gd (fun c8 => ?_)
            refine S_gd (fun c9 => ?_)
            refine s_aald (pc := 61) c8 c9 (by decide +kernel) ?_
            refine s_iload_n (pc := 62) (k0 := 2) (i := 2) rfl 2 rfl (by decide +kernel) ?_
            refine s_aload_n (pc := 63) (k0 := 0) (i := 0) rfl 0 rfl (by decide +kernel) ?_
            refine s_getR (pc := 64) (k := 11) c7 ft_X6_71 rfl (by decide +kernel) ?_
            refine S_gd (fun c10 => ?_)
            refine s_cVv (pc := 67) [.int a2, .ref (hR g4 a0 11)] (tX4_rightBeginAt (hR g4 (hR g4 a0 0) a1.toNatClampNeg) a2 (hR g4 a0 11) g4) c10 cw_X6_274 rfl ⟨⟨Nat.le_of_ble_eq_true rfl, Nat.le_of_ble_eq_true rfl⟩, Nat.le_of_ble_eq_true rfl⟩ rfl (by decide +kernel) (fun _ g11 e12 => ?_)
            refine s_aload_n (pc := 70) (k0 := 0) (i := 0) rfl 0 rfl (by decide +kernel) ?_
            have c13 := kp e12 c7 (by decide)
            refine s_getR (pc := 71) (k := 11) c13 ft_X6_71 rfl (by decide +kernel) ?_
            refine s_iload_n (pc := 74) (k0 := 3) (i := 3) rfl 3 rfl (by decide +kernel) ?_
            refine s_iconst (pc := 75) (n := 2) (v := (2 : Int32)) (by decide) (by decide +kernel) ?_
            refine s_isub (pc := 76) (by decide +kernel) ?_
            refine s_cSj (pc := 77) [.ref (hR g11 a0 11), .int (a3 - (2 : Int32))] (tX6_tellNumber (hR g11 a0 11) (a3 - (2 : Int32)) g11) cw_X6_225 rfl ⟨⟨Nat.le_of_ble_eq_true rfl, Nat.le_of_ble_eq_true rfl⟩, Nat.le_of_ble_eq_true rfl⟩ rfl (by decide +kernel) (fun w16 g14 e15 => ?_)
            exact s_lret (pc := 80) rfl (by decide +kernel)
          · refine s_aload_n (pc := 33) (k0 := 0) (i := 0) rfl 0 rfl (by decide +kernel) ?_
            refine S_gd (fun c17 => ?_)
            refine s_getR (pc := 34) (k := 0) c17 ft_X6_15 rfl (by decide +kernel) ?_
            refine s_iload_n (pc := 37) (k0 := 1) (i := 1) rfl 1 rfl (by decide +kernel) ?_
            refine S_gd (fun c18 => ?_)
            refine S_gd (fun c19 => ?_)
            refine s_aald (pc := 38) c18 c19 (by decide +kernel) ?_
            refine s_iload_n (pc := 39) (k0 := 2) (i := 2) rfl 2 rfl (by decide +kernel) ?_
            refine s_aload_n (pc := 40) (k0 := 0) (i := 0) rfl 0 rfl (by decide +kernel) ?_
            refine s_getR (pc := 41) (k := 11) c17 ft_X6_71 rfl (by decide +kernel) ?_
            refine S_gd (fun c20 => ?_)
            refine s_cVv (pc := 44) [.int a2, .ref (hR g4 a0 11)] (tX4_leftEndAt (hR g4 (hR g4 a0 0) a1.toNatClampNeg) a2 (hR g4 a0 11) g4) c20 cw_X6_271 rfl ⟨⟨Nat.le_of_ble_eq_true rfl, Nat.le_of_ble_eq_true rfl⟩, Nat.le_of_ble_eq_true rfl⟩ rfl (by decide +kernel) (fun _ g21 e22 => ?_)
            refine s_aload_n (pc := 47) (k0 := 0) (i := 0) rfl 0 rfl (by decide +kernel) ?_
            have c23 := kp e22 c17 (by decide)
            refine s_getR (pc := 48) (k := 11) c23 ft_X6_71 rfl (by decide +kernel) ?_
            refine s_iload_n (pc := 51) (k0 := 3) (i := 3) rfl 3 rfl (by decide +kernel) ?_
            refine s_cSj (pc := 52) [.ref (hR g21 a0 11), .int a3] (tX6_tellNumber (hR g21 a0 11) a3 g21) cw_X6_225 rfl ⟨⟨Nat.le_of_ble_eq_true rfl, Nat.le_of_ble_eq_true rfl⟩, Nat.le_of_ble_eq_true rfl⟩ rfl (by decide +kernel) (fun w26 g24 e25 => ?_)
            exact s_lret (pc := 55) rfl (by decide +kernel)
        · refine s_ldc2 (pc := 24) (v := (-9223372036854775808 : Int64)) (index := 212) (gd_of 641 (by decide +kernel) rfl) (by decide +kernel) ?_
          exact s_lret (pc := 27) rfl (by decide +kernel)
theorem tX6_limit (a0 : Nat) (a1 : Int32) (a2 : Int32) (a3 : Int32) (h : xH) : Ct yX6_limit kX6_limit emJ [.ref a0, .int a1, .int a2, .int a3] h (fX6_limit a0 a1 a2 a3 h) := Ct_of (by decide +kernel) rfl rfl rfl (Nat.le_of_ble_eq_true rfl) rfl (pX6_limit_e a0 a1 a2 a3 h)
def fX6_of   (a0 : Nat) (a1 : Int32) (a2 : Int32) (h : xH) : Option (Int32 × xH) :=
  bd (fX6_isStore a1 h) (fun w3 g1 =>
  if w3 = 0 then (
  some ((-2147483648 : Int32), g1))
  else (
  if kc g1 a0 = 6 then
  if kc g1 (hR g1 a0 0) = 12 then
  if ix a1 (kl g1 (hR g1 a0 0)) then
  lt (hR g1 (hR g1 a0 0) a1.toNatClampNeg) (fun v7 =>
  if a2 = (0 : Int32) then
  (if kc g1 v7 = 4 then
  some ((hI g1 v7 0), g1)
  else none)
  else (
  if a2 = (1 : Int32) then
  (if kc g1 v7 = 4 then
  bd (fX4_parts v7 g1) (fun w47 g45 =>
  some (w47, g45))
  else none)
  else (
  if a2 = (2 : Int32) then
  (if kc g1 v7 = 4 then
  bd (fX4_parts v7 g1) (fun w43 g41 =>
  some (((hI g1 v7 0) - w43), g41))
  else none)
  else (
  if a2 = (3 : Int32) then
  (if kc g1 v7 = 4 then
  bd (fX4_jumps v7 g1) (fun w39 g37 =>
  some (w39, g37))
  else none)
  else (
  if a2 = (4 : Int32) then
  (if kc g1 v7 = 4 then
  bd (fX4_parts v7 g1) (fun w31 g29 =>
  if w31 = (1 : Int32) then (
  bd (fX4_slopeFalls v7 g29) (fun w35 g33 =>
  if w35 = 0 then (
  some ((1 : Int32), g33))
  else (
  some ((0 : Int32), g33))))
  else (
  some ((0 : Int32), g29)))
  else none)
  else (
  if a2 = (5 : Int32) then
  (if kc g1 v7 = 4 then
  if (hI g1 v7 0) = 0 then (
  some ((-2147483648 : Int32), g1))
  else (
  bd (fX4_xAt v7 (0 : Int32) g1) (fun w27 g25 =>
  some (w27, g25)))
  else none)
  else (
  if a2 = (6 : Int32) then
  (if kc g1 v7 = 4 then
  if (hI g1 v7 0) = 0 then (
  some ((-2147483648 : Int32), g1))
  else (
  bd (fX4_xAt v7 ((hI g1 v7 0) - (1 : Int32)) g1) (fun w23 g21 =>
  some (w23, g21)))
  else none)
  else (
  if a2 = (7 : Int32) then
  (if kc g1 v7 = 4 then
  bd (fX4_width v7 g1) (fun w19 g17 =>
  some (w19, g17))
  else none)
  else (
  if a2 = (8 : Int32) then
  (if kc g1 v7 = 4 then
  bd (fX4_canBeTurned v7 g1) (fun w15 g13 =>
  if w15 = 0 then (
  some ((0 : Int32), g13))
  else (
  some ((1 : Int32), g13)))
  else none)
  else (
  if a2 = (9 : Int32) then
  (if kc g1 v7 = 4 then
  bd (fX4_slopeFalls v7 g1) (fun w11 g9 =>
  some (w11, g9))
  else none)
  else (
  (some ((-2147483648 : Int32), g1)))))))))))))
  else none
  else none
  else none))
theorem pX6_of_e    (a0 : Nat) (a1 : Int32) (a2 : Int32) (h : xH) : S emI kX6_of h 0 [(0, .ref a0), (1, .int a1), (2, .int a2)] [] h (fX6_of  a0 a1 a2 h) := by
  unfold fX6_of
  refine s_iload_n (pc := 0) (k0 := 1) (i := 1) rfl 1 rfl (by decide +kernel) ?_
  refine s_cSi (pc := 1) [.int a1] (tX6_isStore a1 h) cw_X6_97 rfl ⟨⟨Nat.le_of_ble_eq_true rfl, Nat.le_of_ble_eq_true rfl⟩, Nat.le_of_ble_eq_true rfl⟩ rfl (by decide +kernel) (fun w3 g1 e2 => ?_)
  refine s_if_ne (pc := 4) (off := 6) 10 (by decide +kernel) (by decide) (fun _ => ?_) (fun _ => ?_)
  · refine s_ldc (pc := 7) (v := (-2147483648 : Int32)) (index := 238) (gd_of 658 (by decide +kernel) rfl) (by decide +kernel) ?_
    exact s_iret (pc := 9) rfl (by decide +kernel)
  · refine s_aload_n (pc := 10) (k0 := 0) (i := 0) rfl 0 rfl (by decide +kernel) ?_
    refine S_gd (fun c4 => ?_)
    refine s_getR (pc := 11) (k := 0) c4 ft_X6_15 rfl (by decide +kernel) ?_
    refine s_iload_n (pc := 14) (k0 := 1) (i := 1) rfl 1 rfl (by decide +kernel) ?_
    refine S_gd (fun c5 => ?_)
    refine S_gd (fun c6 => ?_)
    refine s_aald (pc := 15) c5 c6 (by decide +kernel) ?_
    refine s_nmA (fun v7 => ?_)
    refine s_astore_n (pc := 16) (L' := [(3, .ref v7), (0, .ref a0), (1, .int a1), (2, .int a2)]) (k0 := 3) (i := 3) rfl (by decide) rfl (by decide +kernel) ?_
    refine s_iload_n (pc := 17) (k0 := 2) (i := 2) rfl 3 rfl (by decide +kernel) ?_
    refine S_ite (fun e => ?_) (fun ne0 => ?_)
    · refine s_tableIn (pc := 18) (dflt := 164) (lo := 0) (hi := 9) (offs := #[54, 59, 64, 74, 79, 100, 118, 141, 146, 159]) (len := 54) (off := 54) 72 (by decide +kernel) (by rw [e]; decide) (by rw [e]; decide) (by rw [e]; rfl) (by decide) ?_
      refine s_aload_n (pc := 72) (k0 := 3) (i := 3) rfl 0 rfl (by decide +kernel) ?_
      refine S_gd (fun c48 => ?_)
      refine s_getI (pc := 73) (k := 0) c48 ft_X6_134 rfl (by decide +kernel) ?_
      exact s_iret (pc := 76) rfl (by decide +kernel)
    · refine S_ite (fun e => ?_) (fun ne1 => ?_)
      · refine s_tableIn (pc := 18) (dflt := 164) (lo := 0) (hi := 9) (offs := #[54, 59, 64, 74, 79, 100, 118, 141, 146, 159]) (len := 54) (off := 59) 77 (by decide +kernel) (by rw [e]; decide) (by rw [e]; decide) (by rw [e]; rfl) (by decide) ?_
        refine s_aload_n (pc := 77) (k0 := 3) (i := 3) rfl 0 rfl (by decide +kernel) ?_
        refine S_gd (fun c44 => ?_)
        refine s_cVi (pc := 78) [] (tX4_parts v7 g1) c44 cw_X6_277 rfl ⟨⟨Nat.le_of_ble_eq_true rfl, Nat.le_of_ble_eq_true rfl⟩, Nat.le_of_ble_eq_true rfl⟩ rfl (by decide +kernel) (fun w47 g45 e46 => ?_)
        exact s_iret (pc := 81) rfl (by decide +kernel)
      · refine S_ite (fun e => ?_) (fun ne2 => ?_)
        · refine s_tableIn (pc := 18) (dflt := 164) (lo := 0) (hi := 9) (offs := #[54, 59, 64, 74, 79, 100, 118, 141, 146, 159]) (len := 54) (off := 64) 82 (by decide +kernel) (by rw [e]; decide) (by rw [e]; decide) (by rw [e]; rfl) (by decide) ?_
          refine s_aload_n (pc := 82) (k0 := 3) (i := 3) rfl 0 rfl (by decide +kernel) ?_
          refine S_gd (fun c40 => ?_)
          refine s_getI (pc := 83) (k := 0) c40 ft_X6_134 rfl (by decide +kernel) ?_
          refine s_aload_n (pc := 86) (k0 := 3) (i := 3) rfl 0 rfl (by decide +kernel) ?_
          refine s_cVi (pc := 87) [] (tX4_parts v7 g1) c40 cw_X6_277 rfl ⟨⟨Nat.le_of_ble_eq_true rfl, Nat.le_of_ble_eq_true rfl⟩, Nat.le_of_ble_eq_true rfl⟩ rfl (by decide +kernel) (fun w43 g41 e42 => ?_)
          refine s_isub (pc := 90) (by decide +kernel) ?_
          exact s_iret (pc := 91) rfl (by decide +kernel)
        · refine S_ite (fun e => ?_) (fun ne3 => ?_)
          · refine s_tableIn (pc := 18) (dflt := 164) (lo := 0) (hi := 9) (offs := #[54, 59, 64, 74, 79, 100, 118, 141, 146, 159]) (len := 54) (off := 74) 92 (by decide +kernel) (by rw [e]; decide) (by rw [e]; decide) (by rw [e]; rfl) (by decide) ?_
            refine s_aload_n (pc := 92) (k0 := 3) (i := 3) rfl 0 rfl (by decide +kernel) ?_
            refine S_gd (fun c36 => ?_)
            refine s_cVi (pc := 93) [] (tX4_jumps v7 g1) c36 cw_X6_280 rfl ⟨⟨Nat.le_of_ble_eq_true rfl, Nat.le_of_ble_eq_true rfl⟩, Nat.le_of_ble_eq_true rfl⟩ rfl (by decide +kernel) (fun w39 g37 e38 => ?_)
            exact s_iret (pc := 96) rfl (by decide +kernel)
          · refine S_ite (fun e => ?_) (fun ne4 => ?_)
            · refine s_tableIn (pc := 18) (dflt := 164) (lo := 0) (hi := 9) (offs := #[54, 59, 64, 74, 79, 100, 118, 141, 146, 159]) (len := 54) (off := 79) 97 (by decide +kernel) (by rw [e]; decide) (by rw [e]; decide) (by rw [e]; rfl) (by decide) ?_
              refine s_aload_n (pc := 97) (k0 := 3) (i := 3) rfl 0 rfl (by decide +kernel) ?_
              refine S_gd (fun c28 => ?_)
              refine s_cVi (pc := 98) [] (tX4_parts v7 g1) c28 cw_X6_277 rfl ⟨⟨Nat.le_of_ble_eq_true rfl, Nat.le_of_ble_eq_true rfl⟩, Nat.le_of_ble_eq_true rfl⟩ rfl (by decide +kernel) (fun w31 g29 e30 => ?_)
              refine s_iconst (pc := 101) (n := 1) (v := (1 : Int32)) (by decide) (by decide +kernel) ?_
              refine s_icmp_ne (pc := 102) (off := 14) 116 (by decide +kernel) (by decide) (fun _ => ?_) (fun _ => ?_)
              · refine s_aload_n (pc := 105) (k0 := 3) (i := 3) rfl 0 rfl (by decide +kernel) ?_
                have c32 := kp e30 c28 (by decide)
                refine s_cVi (pc := 106) [] (tX4_slopeFalls v7 g29) c32 cw_X6_283 rfl ⟨⟨Nat.le_of_ble_eq_true rfl, Nat.le_of_ble_eq_true rfl⟩, Nat.le_of_ble_eq_true rfl⟩ rfl (by decide +kernel) (fun w35 g33 e34 => ?_)
                refine s_if_ne (pc := 109) (off := 7) 116 (by decide +kernel) (by decide) (fun _ => ?_) (fun _ => ?_)
                · refine s_iconst (pc := 112) (n := 1) (v := (1 : Int32)) (by decide) (by decide +kernel) ?_
                  refine s_goto (pc := 113) (off := 4) 117 (by decide +kernel) (by decide) ?_
                  exact s_iret (pc := 117) rfl (by decide +kernel)
                · refine s_iconst (pc := 116) (n := 0) (v := (0 : Int32)) (by decide) (by decide +kernel) ?_
                  exact s_iret (pc := 117) rfl (by decide +kernel)
              · refine s_iconst (pc := 116) (n := 0) (v := (0 : Int32)) (by decide) (by decide +kernel) ?_
                exact s_iret (pc := 117) rfl (by decide +kernel)
            · refine S_ite (fun e => ?_) (fun ne5 => ?_)
              · refine s_tableIn (pc := 18) (dflt := 164) (lo := 0) (hi := 9) (offs := #[54, 59, 64, 74, 79, 100, 118, 141, 146, 159]) (len := 54) (off := 100) 118 (by decide +kernel) (by rw [e]; decide) (by rw [e]; decide) (by rw [e]; rfl) (by decide) ?_
                refine s_aload_n (pc := 118) (k0 := 3) (i := 3) rfl 0 rfl (by decide +kernel) ?_
                refine S_gd (fun c24 => ?_)
                refine s_getI (pc := 119) (k := 0) c24 ft_X6_134 rfl (by decide +kernel) ?_
                refine s_if_ne (pc := 122) (off := 8) 130 (by decide +kernel) (by decide) (fun _ => ?_) (fun _ => ?_)
                · refine s_ldc (pc := 125) (v := (-2147483648 : Int32)) (index := 238) (gd_of 658 (by decide +kernel) rfl) (by decide +kernel) ?_
                  refine s_goto (pc := 127) (off := 8) 135 (by decide +kernel) (by decide) ?_
                  exact s_iret (pc := 135) rfl (by decide +kernel)
                · refine s_aload_n (pc := 130) (k0 := 3) (i := 3) rfl 0 rfl (by decide +kernel) ?_
                  refine s_iconst (pc := 131) (n := 0) (v := (0 : Int32)) (by decide) (by decide +kernel) ?_
                  refine s_cVi (pc := 132) [.int (0 : Int32)] (tX4_xAt v7 (0 : Int32) g1) c24 cw_X6_239 rfl ⟨⟨Nat.le_of_ble_eq_true rfl, Nat.le_of_ble_eq_true rfl⟩, Nat.le_of_ble_eq_true rfl⟩ rfl (by decide +kernel) (fun w27 g25 e26 => ?_)
                  exact s_iret (pc := 135) rfl (by decide +kernel)
              · refine S_ite (fun e => ?_) (fun ne6 => ?_)
                · refine s_tableIn (pc := 18) (dflt := 164) (lo := 0) (hi := 9) (offs := #[54, 59, 64, 74, 79, 100, 118, 141, 146, 159]) (len := 54) (off := 118) 136 (by decide +kernel) (by rw [e]; decide) (by rw [e]; decide) (by rw [e]; rfl) (by decide) ?_
                  refine s_aload_n (pc := 136) (k0 := 3) (i := 3) rfl 0 rfl (by decide +kernel) ?_
                  refine S_gd (fun c20 => ?_)
                  refine s_getI (pc := 137) (k := 0) c20 ft_X6_134 rfl (by decide +kernel) ?_
                  refine s_if_ne (pc := 140) (off := 8) 148 (by decide +kernel) (by decide) (fun _ => ?_) (fun _ => ?_)
                  · refine s_ldc (pc := 143) (v := (-2147483648 : Int32)) (index := 238) (gd_of 658 (by decide +kernel) rfl) (by decide +kernel) ?_
                    refine s_goto (pc := 145) (off := 13) 158 (by decide +kernel) (by decide) ?_
                    exact s_iret (pc := 158) rfl (by decide +kernel)
                  · refine s_aload_n (pc := 148) (k0 := 3) (i := 3) rfl 0 rfl (by decide +kernel) ?_
                    refine s_aload_n (pc := 149) (k0 := 3) (i := 3) rfl 0 rfl (by decide +kernel) ?_
                    refine s_getI (pc := 150) (k := 0) c20 ft_X6_134 rfl (by decide +kernel) ?_
                    refine s_iconst (pc := 153) (n := 1) (v := (1 : Int32)) (by decide) (by decide +kernel) ?_
                    refine s_isub (pc := 154) (by decide +kernel) ?_
                    refine s_cVi (pc := 155) [.int ((hI g1 v7 0) - (1 : Int32))] (tX4_xAt v7 ((hI g1 v7 0) - (1 : Int32)) g1) c20 cw_X6_239 rfl ⟨⟨Nat.le_of_ble_eq_true rfl, Nat.le_of_ble_eq_true rfl⟩, Nat.le_of_ble_eq_true rfl⟩ rfl (by decide +kernel) (fun w23 g21 e22 => ?_)
                    exact s_iret (pc := 158) rfl (by decide +kernel)
                · refine S_ite (fun e => ?_) (fun ne7 => ?_)
                  · refine s_tableIn (pc := 18) (dflt := 164) (lo := 0) (hi := 9) (offs := #[54, 59, 64, 74, 79, 100, 118, 141, 146, 159]) (len := 54) (off := 141) 159 (by decide +kernel) (by rw [e]; decide) (by rw [e]; decide) (by rw [e]; rfl) (by decide) ?_
                    refine s_aload_n (pc := 159) (k0 := 3) (i := 3) rfl 0 rfl (by decide +kernel) ?_
                    refine S_gd (fun c16 => ?_)
                    refine s_cVi (pc := 160) [] (tX4_width v7 g1) c16 cw_X6_286 rfl ⟨⟨Nat.le_of_ble_eq_true rfl, Nat.le_of_ble_eq_true rfl⟩, Nat.le_of_ble_eq_true rfl⟩ rfl (by decide +kernel) (fun w19 g17 e18 => ?_)
                    exact s_iret (pc := 163) rfl (by decide +kernel)
                  · refine S_ite (fun e => ?_) (fun ne8 => ?_)
                    · refine s_tableIn (pc := 18) (dflt := 164) (lo := 0) (hi := 9) (offs := #[54, 59, 64, 74, 79, 100, 118, 141, 146, 159]) (len := 54) (off := 146) 164 (by decide +kernel) (by rw [e]; decide) (by rw [e]; decide) (by rw [e]; rfl) (by decide) ?_
                      refine s_aload_n (pc := 164) (k0 := 3) (i := 3) rfl 0 rfl (by decide +kernel) ?_
                      refine S_gd (fun c12 => ?_)
                      refine s_cVi (pc := 165) [] (tX4_canBeTurned v7 g1) c12 cw_X6_164 rfl ⟨⟨Nat.le_of_ble_eq_true rfl, Nat.le_of_ble_eq_true rfl⟩, Nat.le_of_ble_eq_true rfl⟩ rfl (by decide +kernel) (fun w15 g13 e14 => ?_)
                      refine s_if_eq (pc := 168) (off := 7) 175 (by decide +kernel) (by decide) (fun _ => ?_) (fun _ => ?_)
                      · refine s_iconst (pc := 175) (n := 0) (v := (0 : Int32)) (by decide) (by decide +kernel) ?_
                        exact s_iret (pc := 176) rfl (by decide +kernel)
                      · refine s_iconst (pc := 171) (n := 1) (v := (1 : Int32)) (by decide) (by decide +kernel) ?_
                        refine s_goto (pc := 172) (off := 4) 176 (by decide +kernel) (by decide) ?_
                        exact s_iret (pc := 176) rfl (by decide +kernel)
                    · refine S_ite (fun e => ?_) (fun ne9 => ?_)
                      · refine s_tableIn (pc := 18) (dflt := 164) (lo := 0) (hi := 9) (offs := #[54, 59, 64, 74, 79, 100, 118, 141, 146, 159]) (len := 54) (off := 159) 177 (by decide +kernel) (by rw [e]; decide) (by rw [e]; decide) (by rw [e]; rfl) (by decide) ?_
                        refine s_aload_n (pc := 177) (k0 := 3) (i := 3) rfl 0 rfl (by decide +kernel) ?_
                        refine S_gd (fun c8 => ?_)
                        refine s_cVi (pc := 178) [] (tX4_slopeFalls v7 g1) c8 cw_X6_283 rfl ⟨⟨Nat.le_of_ble_eq_true rfl, Nat.le_of_ble_eq_true rfl⟩, Nat.le_of_ble_eq_true rfl⟩ rfl (by decide +kernel) (fun w11 g9 e10 => ?_)
                        exact s_iret (pc := 181) rfl (by decide +kernel)
                      · have tn0 := tb_ne ne0 (n := 0) (by decide)
                        have tn1 := tb_ne ne1 (n := 1) (by decide)
                        have tn2 := tb_ne ne2 (n := 2) (by decide)
                        have tn3 := tb_ne ne3 (n := 3) (by decide)
                        have tn4 := tb_ne ne4 (n := 4) (by decide)
                        have tn5 := tb_ne ne5 (n := 5) (by decide)
                        have tn6 := tb_ne ne6 (n := 6) (by decide)
                        have tn7 := tb_ne ne7 (n := 7) (by decide)
                        have tn8 := tb_ne ne8 (n := 8) (by decide)
                        have tn9 := tb_ne ne9 (n := 9) (by decide)
                        refine s_tableOut (pc := 18) (dflt := 164) (lo := 0) (hi := 9) (offs := #[54, 59, 64, 74, 79, 100, 118, 141, 146, 159]) (len := 54) 182 (by decide +kernel) (by omega) (by decide) ?_
                        refine s_ldc (pc := 182) (v := (-2147483648 : Int32)) (index := 238) (gd_of 658 (by decide +kernel) rfl) (by decide +kernel) ?_
                        exact s_iret (pc := 184) rfl (by decide +kernel)
theorem tX6_of (a0 : Nat) (a1 : Int32) (a2 : Int32) (h : xH) : Ct yX6_of kX6_of emI [.ref a0, .int a1, .int a2] h (fX6_of a0 a1 a2 h) := Ct_of (by decide +kernel) rfl rfl rfl (Nat.le_of_ble_eq_true rfl) rfl (pX6_of_e a0 a1 a2 h)
def fX6_least   (a0 : Nat) (a1 : Int32) (a2 : Int32) (h : xH) : Option (Int32 × xH) :=
  bd (fX6_isStore a1 h) (fun w3 g1 =>
  if w3 = 0 then (
  some ((-2147483648 : Int32), g1))
  else (
  if kc g1 a0 = 6 then
  if kc g1 (hR g1 a0 0) = 12 then
  if ix a1 (kl g1 (hR g1 a0 0)) then
  if kc g1 (hR g1 (hR g1 a0 0) a1.toNatClampNeg) = 4 then
  if (hI g1 (hR g1 (hR g1 a0 0) a1.toNatClampNeg) 0) = 0 then (
  some ((-2147483648 : Int32), g1))
  else (
  lt (hR g1 (hR g1 a0 0) a1.toNatClampNeg) (fun v8 =>
  if a2 = (0 : Int32) then
  (if kc g1 v8 = 4 then
  bd (fX4_firstLowest v8 g1) (fun w32 g30 =>
  bd (fX4_yAt v8 w32 g30) (fun w36 g34 =>
  some (w36, g34)))
  else none)
  else (
  if a2 = (1 : Int32) then
  (if kc g1 v8 = 4 then
  bd (fX4_firstLowest v8 g1) (fun w24 g22 =>
  bd (fX4_xAt v8 w24 g22) (fun w28 g26 =>
  some (w28, g26)))
  else none)
  else (
  if a2 = (2 : Int32) then
  (if kc g1 v8 = 4 then
  bd (fX4_lastLowest v8 g1) (fun w16 g14 =>
  bd (fX4_xAt v8 w16 g14) (fun w20 g18 =>
  some (w20, g18)))
  else none)
  else (
  if a2 = (3 : Int32) then
  (if kc g1 v8 = 4 then
  bd (fX4_highest v8 g1) (fun w12 g10 =>
  some (w12, g10))
  else none)
  else (
  (some ((-2147483648 : Int32), g1))))))))
  else none
  else none
  else none
  else none))
theorem pX6_least_e    (a0 : Nat) (a1 : Int32) (a2 : Int32) (h : xH) : S emI kX6_least h 0 [(0, .ref a0), (1, .int a1), (2, .int a2)] [] h (fX6_least  a0 a1 a2 h) := by
  unfold fX6_least
  refine s_iload_n (pc := 0) (k0 := 1) (i := 1) rfl 1 rfl (by decide +kernel) ?_
  refine s_cSi (pc := 1) [.int a1] (tX6_isStore a1 h) cw_X6_97 rfl ⟨⟨Nat.le_of_ble_eq_true rfl, Nat.le_of_ble_eq_true rfl⟩, Nat.le_of_ble_eq_true rfl⟩ rfl (by decide +kernel) (fun w3 g1 e2 => ?_)
  refine s_if_eq (pc := 4) (off := 15) 19 (by decide +kernel) (by decide) (fun _ => ?_) (fun _ => ?_)
  · refine s_ldc (pc := 19) (v := (-2147483648 : Int32)) (index := 238) (gd_of 658 (by decide +kernel) rfl) (by decide +kernel) ?_
    exact s_iret (pc := 21) rfl (by decide +kernel)
  · refine s_aload_n (pc := 7) (k0 := 0) (i := 0) rfl 0 rfl (by decide +kernel) ?_
    refine S_gd (fun c4 => ?_)
    refine s_getR (pc := 8) (k := 0) c4 ft_X6_15 rfl (by decide +kernel) ?_
    refine s_iload_n (pc := 11) (k0 := 1) (i := 1) rfl 1 rfl (by decide +kernel) ?_
    refine S_gd (fun c5 => ?_)
    refine S_gd (fun c6 => ?_)
    refine s_aald (pc := 12) c5 c6 (by decide +kernel) ?_
    refine S_gd (fun c7 => ?_)
    refine s_getI (pc := 13) (k := 0) c7 ft_X6_134 rfl (by decide +kernel) ?_
    refine s_if_ne (pc := 16) (off := 6) 22 (by decide +kernel) (by decide) (fun _ => ?_) (fun _ => ?_)
    · refine s_ldc (pc := 19) (v := (-2147483648 : Int32)) (index := 238) (gd_of 658 (by decide +kernel) rfl) (by decide +kernel) ?_
      exact s_iret (pc := 21) rfl (by decide +kernel)
    · refine s_aload_n (pc := 22) (k0 := 0) (i := 0) rfl 0 rfl (by decide +kernel) ?_
      refine s_getR (pc := 23) (k := 0) c4 ft_X6_15 rfl (by decide +kernel) ?_
      refine s_iload_n (pc := 26) (k0 := 1) (i := 1) rfl 1 rfl (by decide +kernel) ?_
      refine s_aald (pc := 27) c5 c6 (by decide +kernel) ?_
      refine s_nmA (fun v8 => ?_)
      refine s_astore_n (pc := 28) (L' := [(3, .ref v8), (0, .ref a0), (1, .int a1), (2, .int a2)]) (k0 := 3) (i := 3) rfl (by decide) rfl (by decide +kernel) ?_
      refine s_iload_n (pc := 29) (k0 := 2) (i := 2) rfl 3 rfl (by decide +kernel) ?_
      refine S_ite (fun e => ?_) (fun ne0 => ?_)
      · refine s_tableIn (pc := 30) (dflt := 62) (lo := 0) (hi := 3) (offs := #[30, 39, 48, 57]) (len := 30) (off := 30) 60 (by decide +kernel) (by rw [e]; decide) (by rw [e]; decide) (by rw [e]; rfl) (by decide) ?_
        refine s_aload_n (pc := 60) (k0 := 3) (i := 3) rfl 0 rfl (by decide +kernel) ?_
        refine s_aload_n (pc := 61) (k0 := 3) (i := 3) rfl 0 rfl (by decide +kernel) ?_
        refine S_gd (fun c29 => ?_)
        refine s_cVi (pc := 62) [] (tX4_firstLowest v8 g1) c29 cw_X6_289 rfl ⟨⟨Nat.le_of_ble_eq_true rfl, Nat.le_of_ble_eq_true rfl⟩, Nat.le_of_ble_eq_true rfl⟩ rfl (by decide +kernel) (fun w32 g30 e31 => ?_)
        have c33 := kp e31 c29 (by decide)
        refine s_cVi (pc := 65) [.int w32] (tX4_yAt v8 w32 g30) c33 cw_X6_242 rfl ⟨⟨Nat.le_of_ble_eq_true rfl, Nat.le_of_ble_eq_true rfl⟩, Nat.le_of_ble_eq_true rfl⟩ rfl (by decide +kernel) (fun w36 g34 e35 => ?_)
        exact s_iret (pc := 68) rfl (by decide +kernel)
      · refine S_ite (fun e => ?_) (fun ne1 => ?_)
        · refine s_tableIn (pc := 30) (dflt := 62) (lo := 0) (hi := 3) (offs := #[30, 39, 48, 57]) (len := 30) (off := 39) 69 (by decide +kernel) (by rw [e]; decide) (by rw [e]; decide) (by rw [e]; rfl) (by decide) ?_
          refine s_aload_n (pc := 69) (k0 := 3) (i := 3) rfl 0 rfl (by decide +kernel) ?_
          refine s_aload_n (pc := 70) (k0 := 3) (i := 3) rfl 0 rfl (by decide +kernel) ?_
          refine S_gd (fun c21 => ?_)
          refine s_cVi (pc := 71) [] (tX4_firstLowest v8 g1) c21 cw_X6_289 rfl ⟨⟨Nat.le_of_ble_eq_true rfl, Nat.le_of_ble_eq_true rfl⟩, Nat.le_of_ble_eq_true rfl⟩ rfl (by decide +kernel) (fun w24 g22 e23 => ?_)
          have c25 := kp e23 c21 (by decide)
          refine s_cVi (pc := 74) [.int w24] (tX4_xAt v8 w24 g22) c25 cw_X6_239 rfl ⟨⟨Nat.le_of_ble_eq_true rfl, Nat.le_of_ble_eq_true rfl⟩, Nat.le_of_ble_eq_true rfl⟩ rfl (by decide +kernel) (fun w28 g26 e27 => ?_)
          exact s_iret (pc := 77) rfl (by decide +kernel)
        · refine S_ite (fun e => ?_) (fun ne2 => ?_)
          · refine s_tableIn (pc := 30) (dflt := 62) (lo := 0) (hi := 3) (offs := #[30, 39, 48, 57]) (len := 30) (off := 48) 78 (by decide +kernel) (by rw [e]; decide) (by rw [e]; decide) (by rw [e]; rfl) (by decide) ?_
            refine s_aload_n (pc := 78) (k0 := 3) (i := 3) rfl 0 rfl (by decide +kernel) ?_
            refine s_aload_n (pc := 79) (k0 := 3) (i := 3) rfl 0 rfl (by decide +kernel) ?_
            refine S_gd (fun c13 => ?_)
            refine s_cVi (pc := 80) [] (tX4_lastLowest v8 g1) c13 cw_X6_292 rfl ⟨⟨Nat.le_of_ble_eq_true rfl, Nat.le_of_ble_eq_true rfl⟩, Nat.le_of_ble_eq_true rfl⟩ rfl (by decide +kernel) (fun w16 g14 e15 => ?_)
            have c17 := kp e15 c13 (by decide)
            refine s_cVi (pc := 83) [.int w16] (tX4_xAt v8 w16 g14) c17 cw_X6_239 rfl ⟨⟨Nat.le_of_ble_eq_true rfl, Nat.le_of_ble_eq_true rfl⟩, Nat.le_of_ble_eq_true rfl⟩ rfl (by decide +kernel) (fun w20 g18 e19 => ?_)
            exact s_iret (pc := 86) rfl (by decide +kernel)
          · refine S_ite (fun e => ?_) (fun ne3 => ?_)
            · refine s_tableIn (pc := 30) (dflt := 62) (lo := 0) (hi := 3) (offs := #[30, 39, 48, 57]) (len := 30) (off := 57) 87 (by decide +kernel) (by rw [e]; decide) (by rw [e]; decide) (by rw [e]; rfl) (by decide) ?_
              refine s_aload_n (pc := 87) (k0 := 3) (i := 3) rfl 0 rfl (by decide +kernel) ?_
              refine S_gd (fun c9 => ?_)
              refine s_cVi (pc := 88) [] (tX4_highest v8 g1) c9 cw_X6_295 rfl ⟨⟨Nat.le_of_ble_eq_true rfl, Nat.le_of_ble_eq_true rfl⟩, Nat.le_of_ble_eq_true rfl⟩ rfl (by decide +kernel) (fun w12 g10 e11 => ?_)
              exact s_iret (pc := 91) rfl (by decide +kernel)
            · have tn0 := tb_ne ne0 (n := 0) (by decide)
              have tn1 := tb_ne ne1 (n := 1) (by decide)
              have tn2 := tb_ne ne2 (n := 2) (by decide)
              have tn3 := tb_ne ne3 (n := 3) (by decide)
              refine s_tableOut (pc := 30) (dflt := 62) (lo := 0) (hi := 3) (offs := #[30, 39, 48, 57]) (len := 30) 92 (by decide +kernel) (by omega) (by decide) ?_
              refine s_ldc (pc := 92) (v := (-2147483648 : Int32)) (index := 238) (gd_of 658 (by decide +kernel) rfl) (by decide +kernel) ?_
              exact s_iret (pc := 94) rfl (by decide +kernel)
theorem tX6_least (a0 : Nat) (a1 : Int32) (a2 : Int32) (h : xH) : Ct yX6_least kX6_least emI [.ref a0, .int a1, .int a2] h (fX6_least a0 a1 a2 h) := Ct_of (by decide +kernel) rfl rfl rfl (Nat.le_of_ble_eq_true rfl) rfl (pX6_least_e a0 a1 a2 h)
def fX6_slope   (a0 : Nat) (a1 : Int32) (a2 : Int32) (a3 : Int32) (h : xH) : Option (Int64 × xH) :=
  bd (fX6_isStore a1 h) (fun w3 g1 =>
  if w3 = 0 then (
  some ((-9223372036854775808 : Int64), g1))
  else (
  if a2 < 0 then (
  some ((-9223372036854775808 : Int64), g1))
  else (
  bd (fX6_isUpperOrLower a3 g1) (fun w6 g4 =>
  if w6 = 0 then (
  some ((-9223372036854775808 : Int64), g4))
  else (
  if kc g4 a0 = 6 then
  if kc g4 (hR g4 a0 0) = 12 then
  if ix a1 (kl g4 (hR g4 a0 0)) then
  lt (hR g4 (hR g4 a0 0) a1.toNatClampNeg) (fun v10 =>
  if kc g4 v10 = 4 then
  bd (fX4_knotOfLine v10 a2 g4) (fun w14 g12 =>
  if 0 ≤ w14 then (
  bd (fX4_riseOf v10 w14 g12) (fun w19 g17 =>
  bd (fX4_runOf v10 w14 g17) (fun w23 g21 =>
  if kc g21 (hR g12 a0 11) = 2 then
  bd (fX2_assign (hR g12 a0 11) w19 w23 g21) (fun _ g25 =>
  bd (fX6_tellPlain (hR g25 a0 11) a3 g25) (fun w30 g28 =>
  some (w30, g28)))
  else none)))
  else (
  some ((-9223372036854775808 : Int64), g12)))
  else none)
  else none
  else none
  else none)))))
theorem pX6_slope_e    (a0 : Nat) (a1 : Int32) (a2 : Int32) (a3 : Int32) (h : xH) : S emJ kX6_slope h 0 [(0, .ref a0), (1, .int a1), (2, .int a2), (3, .int a3)] [] h (fX6_slope  a0 a1 a2 a3 h) := by
  unfold fX6_slope
  refine s_iload_n (pc := 0) (k0 := 1) (i := 1) rfl 1 rfl (by decide +kernel) ?_
  refine s_cSi (pc := 1) [.int a1] (tX6_isStore a1 h) cw_X6_97 rfl ⟨⟨Nat.le_of_ble_eq_true rfl, Nat.le_of_ble_eq_true rfl⟩, Nat.le_of_ble_eq_true rfl⟩ rfl (by decide +kernel) (fun w3 g1 e2 => ?_)
  refine s_if_eq (pc := 4) (off := 14) 18 (by decide +kernel) (by decide) (fun _ => ?_) (fun _ => ?_)
  · refine s_ldc2 (pc := 18) (v := (-9223372036854775808 : Int64)) (index := 212) (gd_of 641 (by decide +kernel) rfl) (by decide +kernel) ?_
    exact s_lret (pc := 21) rfl (by decide +kernel)
  · refine s_iload_n (pc := 7) (k0 := 2) (i := 2) rfl 2 rfl (by decide +kernel) ?_
    refine s_if_lt (pc := 8) (off := 10) 18 (by decide +kernel) (by decide) (fun _ => ?_) (fun _ => ?_)
    · refine s_ldc2 (pc := 18) (v := (-9223372036854775808 : Int64)) (index := 212) (gd_of 641 (by decide +kernel) rfl) (by decide +kernel) ?_
      exact s_lret (pc := 21) rfl (by decide +kernel)
    · refine s_iload_n (pc := 11) (k0 := 3) (i := 3) rfl 3 rfl (by decide +kernel) ?_
      refine s_cSi (pc := 12) [.int a3] (tX6_isUpperOrLower a3 g1) cw_X6_245 rfl ⟨⟨Nat.le_of_ble_eq_true rfl, Nat.le_of_ble_eq_true rfl⟩, Nat.le_of_ble_eq_true rfl⟩ rfl (by decide +kernel) (fun w6 g4 e5 => ?_)
      refine s_if_ne (pc := 15) (off := 7) 22 (by decide +kernel) (by decide) (fun _ => ?_) (fun _ => ?_)
      · refine s_ldc2 (pc := 18) (v := (-9223372036854775808 : Int64)) (index := 212) (gd_of 641 (by decide +kernel) rfl) (by decide +kernel) ?_
        exact s_lret (pc := 21) rfl (by decide +kernel)
      · refine s_aload_n (pc := 22) (k0 := 0) (i := 0) rfl 0 rfl (by decide +kernel) ?_
        refine S_gd (fun c7 => ?_)
        refine s_getR (pc := 23) (k := 0) c7 ft_X6_15 rfl (by decide +kernel) ?_
        refine s_iload_n (pc := 26) (k0 := 1) (i := 1) rfl 1 rfl (by decide +kernel) ?_
        refine S_gd (fun c8 => ?_)
        refine S_gd (fun c9 => ?_)
        refine s_aald (pc := 27) c8 c9 (by decide +kernel) ?_
        refine s_nmA (fun v10 => ?_)
        refine s_astore (pc := 28) (L' := [(4, .ref v10), (0, .ref a0), (1, .int a1), (2, .int a2), (3, .int a3)]) (i := 4) (by decide) rfl (by decide +kernel) ?_
        refine s_aload (pc := 30) (i := 4) 0 rfl (by decide +kernel) ?_
        refine s_iload_n (pc := 32) (k0 := 2) (i := 2) rfl 3 rfl (by decide +kernel) ?_
        refine S_gd (fun c11 => ?_)
        refine s_cVi (pc := 33) [.int a2] (tX4_knotOfLine v10 a2 g4) c11 cw_X6_298 rfl ⟨⟨Nat.le_of_ble_eq_true rfl, Nat.le_of_ble_eq_true rfl⟩, Nat.le_of_ble_eq_true rfl⟩ rfl (by decide +kernel) (fun w14 g12 e13 => ?_)
        refine s_istore (pc := 36) (L' := [(5, .int w14), (4, .ref v10), (0, .ref a0), (1, .int a1), (2, .int a2), (3, .int a3)]) (i := 5) (by decide) rfl (by decide +kernel) ?_
        refine s_iload (pc := 38) (i := 5) 0 rfl (by decide +kernel) ?_
        refine s_if_ge (pc := 40) (off := 7) 47 (by decide +kernel) (by decide) (fun _ => ?_) (fun _ => ?_)
        · refine s_aload_n (pc := 47) (k0 := 0) (i := 0) rfl 2 rfl (by decide +kernel) ?_
          have c15 := kp e13 c7 (by decide)
          refine s_getR (pc := 48) (k := 11) c15 ft_X6_71 rfl (by decide +kernel) ?_
          refine s_aload (pc := 51) (i := 4) 1 rfl (by decide +kernel) ?_
          refine s_iload (pc := 53) (i := 5) 0 rfl (by decide +kernel) ?_
          have c16 := kp e13 c11 (by decide)
          refine s_cVj (pc := 55) [.int w14] (tX4_riseOf v10 w14 g12) c16 cw_X6_301 rfl ⟨⟨Nat.le_of_ble_eq_true rfl, Nat.le_of_ble_eq_true rfl⟩, Nat.le_of_ble_eq_true rfl⟩ rfl (by decide +kernel) (fun w19 g17 e18 => ?_)
          refine s_aload (pc := 58) (i := 4) 1 rfl (by decide +kernel) ?_
          refine s_iload (pc := 60) (i := 5) 0 rfl (by decide +kernel) ?_
          have c20 := kp e18 c16 (by decide)
          refine s_cVj (pc := 62) [.int w14] (tX4_runOf v10 w14 g17) c20 cw_X6_305 rfl ⟨⟨Nat.le_of_ble_eq_true rfl, Nat.le_of_ble_eq_true rfl⟩, Nat.le_of_ble_eq_true rfl⟩ rfl (by decide +kernel) (fun w23 g21 e22 => ?_)
          refine S_gd (fun c24 => ?_)
          refine s_cVv (pc := 65) [.long w19, .long w23] (tX2_assign (hR g12 a0 11) w19 w23 g21) c24 cw_X6_221 rfl ⟨⟨Nat.le_of_ble_eq_true rfl, Nat.le_of_ble_eq_true rfl⟩, Nat.le_of_ble_eq_true rfl⟩ rfl (by decide +kernel) (fun _ g25 e26 => ?_)
          refine s_aload_n (pc := 68) (k0 := 0) (i := 0) rfl 2 rfl (by decide +kernel) ?_
          have c27 := kp (Le.tr e18 (Le.tr e22 e26)) c15 (by decide)
          refine s_getR (pc := 69) (k := 11) c27 ft_X6_71 rfl (by decide +kernel) ?_
          refine s_iload_n (pc := 72) (k0 := 3) (i := 3) rfl 5 rfl (by decide +kernel) ?_
          refine s_cSj (pc := 73) [.ref (hR g25 a0 11), .int a3] (tX6_tellPlain (hR g25 a0 11) a3 g25) cw_X6_308 rfl ⟨⟨Nat.le_of_ble_eq_true rfl, Nat.le_of_ble_eq_true rfl⟩, Nat.le_of_ble_eq_true rfl⟩ rfl (by decide +kernel) (fun w30 g28 e29 => ?_)
          exact s_lret (pc := 76) rfl (by decide +kernel)
        · refine s_ldc2 (pc := 43) (v := (-9223372036854775808 : Int64)) (index := 212) (gd_of 641 (by decide +kernel) rfl) (by decide +kernel) ?_
          exact s_lret (pc := 46) rfl (by decide +kernel)
theorem tX6_slope (a0 : Nat) (a1 : Int32) (a2 : Int32) (a3 : Int32) (h : xH) : Ct yX6_slope kX6_slope emJ [.ref a0, .int a1, .int a2, .int a3] h (fX6_slope a0 a1 a2 a3 h) := Ct_of (by decide +kernel) rfl rfl rfl (Nat.le_of_ble_eq_true rfl) rfl (pX6_slope_e a0 a1 a2 a3 h)
def fX6_area   (a0 : Nat) (a1 : Int32) (a2 : Int32) (h : xH) : Option (Int64 × xH) :=
  bd (fX6_isStore a1 h) (fun w3 g1 =>
  if w3 = 0 then (
  some ((-9223372036854775808 : Int64), g1))
  else (
  bd (fX6_isUpperOrLower a2 g1) (fun w6 g4 =>
  if w6 = 0 then (
  some ((-9223372036854775808 : Int64), g4))
  else (
  if kc g4 a0 = 6 then
  if kc g4 (hR g4 a0 0) = 12 then
  if ix a1 (kl g4 (hR g4 a0 0)) then
  if kc g4 (hR g4 (hR g4 a0 0) a1.toNatClampNeg) = 4 then
  bd (fX4_twiceArea (hR g4 (hR g4 a0 0) a1.toNatClampNeg) g4) (fun w13 g11 =>
  if kc g11 (hR g4 a0 11) = 2 then
  bd (fX2_assign (hR g4 a0 11) w13 (7200 : Int64) g11) (fun _ g15 =>
  bd (fX6_tellPlain (hR g15 a0 11) a2 g15) (fun w20 g18 =>
  some (w20, g18)))
  else none)
  else none
  else none
  else none
  else none))))
theorem pX6_area_e    (a0 : Nat) (a1 : Int32) (a2 : Int32) (h : xH) : S emJ kX6_area h 0 [(0, .ref a0), (1, .int a1), (2, .int a2)] [] h (fX6_area  a0 a1 a2 h) := by
  unfold fX6_area
  refine s_iload_n (pc := 0) (k0 := 1) (i := 1) rfl 1 rfl (by decide +kernel) ?_
  refine s_cSi (pc := 1) [.int a1] (tX6_isStore a1 h) cw_X6_97 rfl ⟨⟨Nat.le_of_ble_eq_true rfl, Nat.le_of_ble_eq_true rfl⟩, Nat.le_of_ble_eq_true rfl⟩ rfl (by decide +kernel) (fun w3 g1 e2 => ?_)
  refine s_if_eq (pc := 4) (off := 10) 14 (by decide +kernel) (by decide) (fun _ => ?_) (fun _ => ?_)
  · refine s_ldc2 (pc := 14) (v := (-9223372036854775808 : Int64)) (index := 212) (gd_of 641 (by decide +kernel) rfl) (by decide +kernel) ?_
    exact s_lret (pc := 17) rfl (by decide +kernel)
  · refine s_iload_n (pc := 7) (k0 := 2) (i := 2) rfl 2 rfl (by decide +kernel) ?_
    refine s_cSi (pc := 8) [.int a2] (tX6_isUpperOrLower a2 g1) cw_X6_245 rfl ⟨⟨Nat.le_of_ble_eq_true rfl, Nat.le_of_ble_eq_true rfl⟩, Nat.le_of_ble_eq_true rfl⟩ rfl (by decide +kernel) (fun w6 g4 e5 => ?_)
    refine s_if_ne (pc := 11) (off := 7) 18 (by decide +kernel) (by decide) (fun _ => ?_) (fun _ => ?_)
    · refine s_ldc2 (pc := 14) (v := (-9223372036854775808 : Int64)) (index := 212) (gd_of 641 (by decide +kernel) rfl) (by decide +kernel) ?_
      exact s_lret (pc := 17) rfl (by decide +kernel)
    · refine s_aload_n (pc := 18) (k0 := 0) (i := 0) rfl 0 rfl (by decide +kernel) ?_
      refine S_gd (fun c7 => ?_)
      refine s_getR (pc := 19) (k := 11) c7 ft_X6_71 rfl (by decide +kernel) ?_
      refine s_aload_n (pc := 22) (k0 := 0) (i := 0) rfl 0 rfl (by decide +kernel) ?_
      refine s_getR (pc := 23) (k := 0) c7 ft_X6_15 rfl (by decide +kernel) ?_
      refine s_iload_n (pc := 26) (k0 := 1) (i := 1) rfl 1 rfl (by decide +kernel) ?_
      refine S_gd (fun c8 => ?_)
      refine S_gd (fun c9 => ?_)
      refine s_aald (pc := 27) c8 c9 (by decide +kernel) ?_
      refine S_gd (fun c10 => ?_)
      refine s_cVj (pc := 28) [] (tX4_twiceArea (hR g4 (hR g4 a0 0) a1.toNatClampNeg) g4) c10 cw_X6_311 rfl ⟨⟨Nat.le_of_ble_eq_true rfl, Nat.le_of_ble_eq_true rfl⟩, Nat.le_of_ble_eq_true rfl⟩ rfl (by decide +kernel) (fun w13 g11 e12 => ?_)
      refine s_ldc2 (pc := 31) (v := (7200 : Int64)) (index := 315) (gd_of 767 (by decide +kernel) rfl) (by decide +kernel) ?_
      refine S_gd (fun c14 => ?_)
      refine s_cVv (pc := 34) [.long w13, .long (7200 : Int64)] (tX2_assign (hR g4 a0 11) w13 (7200 : Int64) g11) c14 cw_X6_221 rfl ⟨⟨Nat.le_of_ble_eq_true rfl, Nat.le_of_ble_eq_true rfl⟩, Nat.le_of_ble_eq_true rfl⟩ rfl (by decide +kernel) (fun _ g15 e16 => ?_)
      refine s_aload_n (pc := 37) (k0 := 0) (i := 0) rfl 0 rfl (by decide +kernel) ?_
      have c17 := kp (Le.tr e12 e16) c7 (by decide)
      refine s_getR (pc := 38) (k := 11) c17 ft_X6_71 rfl (by decide +kernel) ?_
      refine s_iload_n (pc := 41) (k0 := 2) (i := 2) rfl 2 rfl (by decide +kernel) ?_
      refine s_cSj (pc := 42) [.ref (hR g15 a0 11), .int a2] (tX6_tellPlain (hR g15 a0 11) a2 g15) cw_X6_308 rfl ⟨⟨Nat.le_of_ble_eq_true rfl, Nat.le_of_ble_eq_true rfl⟩, Nat.le_of_ble_eq_true rfl⟩ rfl (by decide +kernel) (fun w20 g18 e19 => ?_)
      exact s_lret (pc := 45) rfl (by decide +kernel)
theorem tX6_area (a0 : Nat) (a1 : Int32) (a2 : Int32) (h : xH) : Ct yX6_area kX6_area emJ [.ref a0, .int a1, .int a2] h (fX6_area a0 a1 a2 h) := Ct_of (by decide +kernel) rfl rfl rfl (Nat.le_of_ble_eq_true rfl) rfl (pX6_area_e a0 a1 a2 h)
def fX6_where   (a0 : Nat) (a1 : Int32) (a2 : Int32) (a3 : Int32) (h : xH) : Option (Int64 × xH) :=
  bd (fX6_isStore a1 h) (fun w3 g1 =>
  if w3 = 0 then (
  some ((-9223372036854775808 : Int64), g1))
  else (
  bd (fX6_isPlace a2.toInt64 g1) (fun w6 g4 =>
  if w6 = 0 then (
  some ((-9223372036854775808 : Int64), g4))
  else (
  bd (fX6_isUpperOrLower a3 g4) (fun w9 g7 =>
  if w9 = 0 then (
  some ((-9223372036854775808 : Int64), g7))
  else (
  if kc g7 a0 = 6 then
  if kc g7 (hR g7 a0 0) = 12 then
  if ix a1 (kl g7 (hR g7 a0 0)) then
  if kc g7 (hR g7 (hR g7 a0 0) a1.toNatClampNeg) = 4 then
  bd (fX4_firstWith (hR g7 (hR g7 a0 0) a1.toNatClampNeg) a2 (hR g7 a0 11) g7) (fun _ g14 =>
  bd (fX6_tellNumber (hR g14 a0 11) a3 g14) (fun w19 g17 =>
  some (w19, g17)))
  else none
  else none
  else none
  else none))))))
theorem pX6_where_e    (a0 : Nat) (a1 : Int32) (a2 : Int32) (a3 : Int32) (h : xH) : S emJ kX6_where h 0 [(0, .ref a0), (1, .int a1), (2, .int a2), (3, .int a3)] [] h (fX6_where  a0 a1 a2 a3 h) := by
  unfold fX6_where
  refine s_iload_n (pc := 0) (k0 := 1) (i := 1) rfl 1 rfl (by decide +kernel) ?_
  refine s_cSi (pc := 1) [.int a1] (tX6_isStore a1 h) cw_X6_97 rfl ⟨⟨Nat.le_of_ble_eq_true rfl, Nat.le_of_ble_eq_true rfl⟩, Nat.le_of_ble_eq_true rfl⟩ rfl (by decide +kernel) (fun w3 g1 e2 => ?_)
  refine s_if_eq (pc := 4) (off := 18) 22 (by decide +kernel) (by decide) (fun _ => ?_) (fun _ => ?_)
  · refine s_ldc2 (pc := 22) (v := (-9223372036854775808 : Int64)) (index := 212) (gd_of 641 (by decide +kernel) rfl) (by decide +kernel) ?_
    exact s_lret (pc := 25) rfl (by decide +kernel)
  · refine s_iload_n (pc := 7) (k0 := 2) (i := 2) rfl 2 rfl (by decide +kernel) ?_
    refine s_i2l (pc := 8) (by decide +kernel) ?_
    refine s_cSi (pc := 9) [.long a2.toInt64] (tX6_isPlace a2.toInt64 g1) cw_X6_123 rfl ⟨⟨Nat.le_of_ble_eq_true rfl, Nat.le_of_ble_eq_true rfl⟩, Nat.le_of_ble_eq_true rfl⟩ rfl (by decide +kernel) (fun w6 g4 e5 => ?_)
    refine s_if_eq (pc := 12) (off := 10) 22 (by decide +kernel) (by decide) (fun _ => ?_) (fun _ => ?_)
    · refine s_ldc2 (pc := 22) (v := (-9223372036854775808 : Int64)) (index := 212) (gd_of 641 (by decide +kernel) rfl) (by decide +kernel) ?_
      exact s_lret (pc := 25) rfl (by decide +kernel)
    · refine s_iload_n (pc := 15) (k0 := 3) (i := 3) rfl 3 rfl (by decide +kernel) ?_
      refine s_cSi (pc := 16) [.int a3] (tX6_isUpperOrLower a3 g4) cw_X6_245 rfl ⟨⟨Nat.le_of_ble_eq_true rfl, Nat.le_of_ble_eq_true rfl⟩, Nat.le_of_ble_eq_true rfl⟩ rfl (by decide +kernel) (fun w9 g7 e8 => ?_)
      refine s_if_ne (pc := 19) (off := 7) 26 (by decide +kernel) (by decide) (fun _ => ?_) (fun _ => ?_)
      · refine s_ldc2 (pc := 22) (v := (-9223372036854775808 : Int64)) (index := 212) (gd_of 641 (by decide +kernel) rfl) (by decide +kernel) ?_
        exact s_lret (pc := 25) rfl (by decide +kernel)
      · refine s_aload_n (pc := 26) (k0 := 0) (i := 0) rfl 0 rfl (by decide +kernel) ?_
        refine S_gd (fun c10 => ?_)
        refine s_getR (pc := 27) (k := 0) c10 ft_X6_15 rfl (by decide +kernel) ?_
        refine s_iload_n (pc := 30) (k0 := 1) (i := 1) rfl 1 rfl (by decide +kernel) ?_
        refine S_gd (fun c11 => ?_)
        refine S_gd (fun c12 => ?_)
        refine s_aald (pc := 31) c11 c12 (by decide +kernel) ?_
        refine s_iload_n (pc := 32) (k0 := 2) (i := 2) rfl 2 rfl (by decide +kernel) ?_
        refine s_aload_n (pc := 33) (k0 := 0) (i := 0) rfl 0 rfl (by decide +kernel) ?_
        refine s_getR (pc := 34) (k := 11) c10 ft_X6_71 rfl (by decide +kernel) ?_
        refine S_gd (fun c13 => ?_)
        refine s_cVv (pc := 37) [.int a2, .ref (hR g7 a0 11)] (tX4_firstWith (hR g7 (hR g7 a0 0) a1.toNatClampNeg) a2 (hR g7 a0 11) g7) c13 cw_X6_317 rfl ⟨⟨Nat.le_of_ble_eq_true rfl, Nat.le_of_ble_eq_true rfl⟩, Nat.le_of_ble_eq_true rfl⟩ rfl (by decide +kernel) (fun _ g14 e15 => ?_)
        refine s_aload_n (pc := 40) (k0 := 0) (i := 0) rfl 0 rfl (by decide +kernel) ?_
        have c16 := kp e15 c10 (by decide)
        refine s_getR (pc := 41) (k := 11) c16 ft_X6_71 rfl (by decide +kernel) ?_
        refine s_iload_n (pc := 44) (k0 := 3) (i := 3) rfl 3 rfl (by decide +kernel) ?_
        refine s_cSj (pc := 45) [.ref (hR g14 a0 11), .int a3] (tX6_tellNumber (hR g14 a0 11) a3 g14) cw_X6_225 rfl ⟨⟨Nat.le_of_ble_eq_true rfl, Nat.le_of_ble_eq_true rfl⟩, Nat.le_of_ble_eq_true rfl⟩ rfl (by decide +kernel) (fun w19 g17 e18 => ?_)
        exact s_lret (pc := 48) rfl (by decide +kernel)
theorem tX6_where (a0 : Nat) (a1 : Int32) (a2 : Int32) (a3 : Int32) (h : xH) : Ct yX6_where kX6_where emJ [.ref a0, .int a1, .int a2, .int a3] h (fX6_where a0 a1 a2 a3 h) := Ct_of (by decide +kernel) rfl rfl rfl (Nat.le_of_ble_eq_true rfl) rfl (pX6_where_e a0 a1 a2 a3 h)
def fX6_places   (a0 : Nat) (a1 : Int32) (a2 : Int32) (a3 : Int32) (h : xH) : Option (Int32 × xH) :=
  bd (fX6_isStore a1 h) (fun w3 g1 =>
  if w3 = 0 then (
  some ((-1 : Int32), g1))
  else (
  bd (fX6_isPlace a2.toInt64 g1) (fun w6 g4 =>
  if w6 = 0 then (
  some ((-1 : Int32), g4))
  else (
  bd (fX6_isPlace a3.toInt64 g4) (fun w9 g7 =>
  if w9 = 0 then (
  some ((-1 : Int32), g7))
  else (
  if a2 ≤ a3 then (
  if kc g7 a0 = 6 then
  if kc g7 (hR g7 a0 0) = 12 then
  if ix a1 (kl g7 (hR g7 a0 0)) then
  if kc g7 (hR g7 (hR g7 a0 0) a1.toNatClampNeg) = 4 then
  bd (fX4_placesWithin (hR g7 (hR g7 a0 0) a1.toNatClampNeg) a2 a3 g7) (fun w16 g14 =>
  some (w16, g14))
  else none
  else none
  else none
  else none)
  else (
  some ((-1 : Int32), g7))))))))
theorem pX6_places_e    (a0 : Nat) (a1 : Int32) (a2 : Int32) (a3 : Int32) (h : xH) : S emI kX6_places h 0 [(0, .ref a0), (1, .int a1), (2, .int a2), (3, .int a3)] [] h (fX6_places  a0 a1 a2 a3 h) := by
  unfold fX6_places
  refine s_iload_n (pc := 0) (k0 := 1) (i := 1) rfl 1 rfl (by decide +kernel) ?_
  refine s_cSi (pc := 1) [.int a1] (tX6_isStore a1 h) cw_X6_97 rfl ⟨⟨Nat.le_of_ble_eq_true rfl, Nat.le_of_ble_eq_true rfl⟩, Nat.le_of_ble_eq_true rfl⟩ rfl (by decide +kernel) (fun w3 g1 e2 => ?_)
  refine s_if_eq (pc := 4) (off := 24) 28 (by decide +kernel) (by decide) (fun _ => ?_) (fun _ => ?_)
  · refine s_iconst (pc := 28) (n := -1) (v := (-1 : Int32)) (by decide) (by decide +kernel) ?_
    exact s_iret (pc := 29) rfl (by decide +kernel)
  · refine s_iload_n (pc := 7) (k0 := 2) (i := 2) rfl 2 rfl (by decide +kernel) ?_
    refine s_i2l (pc := 8) (by decide +kernel) ?_
    refine s_cSi (pc := 9) [.long a2.toInt64] (tX6_isPlace a2.toInt64 g1) cw_X6_123 rfl ⟨⟨Nat.le_of_ble_eq_true rfl, Nat.le_of_ble_eq_true rfl⟩, Nat.le_of_ble_eq_true rfl⟩ rfl (by decide +kernel) (fun w6 g4 e5 => ?_)
    refine s_if_eq (pc := 12) (off := 16) 28 (by decide +kernel) (by decide) (fun _ => ?_) (fun _ => ?_)
    · refine s_iconst (pc := 28) (n := -1) (v := (-1 : Int32)) (by decide) (by decide +kernel) ?_
      exact s_iret (pc := 29) rfl (by decide +kernel)
    · refine s_iload_n (pc := 15) (k0 := 3) (i := 3) rfl 3 rfl (by decide +kernel) ?_
      refine s_i2l (pc := 16) (by decide +kernel) ?_
      refine s_cSi (pc := 17) [.long a3.toInt64] (tX6_isPlace a3.toInt64 g4) cw_X6_123 rfl ⟨⟨Nat.le_of_ble_eq_true rfl, Nat.le_of_ble_eq_true rfl⟩, Nat.le_of_ble_eq_true rfl⟩ rfl (by decide +kernel) (fun w9 g7 e8 => ?_)
      refine s_if_eq (pc := 20) (off := 8) 28 (by decide +kernel) (by decide) (fun _ => ?_) (fun _ => ?_)
      · refine s_iconst (pc := 28) (n := -1) (v := (-1 : Int32)) (by decide) (by decide +kernel) ?_
        exact s_iret (pc := 29) rfl (by decide +kernel)
      · refine s_iload_n (pc := 23) (k0 := 2) (i := 2) rfl 2 rfl (by decide +kernel) ?_
        refine s_iload_n (pc := 24) (k0 := 3) (i := 3) rfl 3 rfl (by decide +kernel) ?_
        refine s_icmp_le (pc := 25) (off := 5) 30 (by decide +kernel) (by decide) (fun _ => ?_) (fun _ => ?_)
        · refine s_aload_n (pc := 30) (k0 := 0) (i := 0) rfl 0 rfl (by decide +kernel) ?_
          refine S_gd (fun c10 => ?_)
          refine s_getR (pc := 31) (k := 0) c10 ft_X6_15 rfl (by decide +kernel) ?_
          refine s_iload_n (pc := 34) (k0 := 1) (i := 1) rfl 1 rfl (by decide +kernel) ?_
          refine S_gd (fun c11 => ?_)
          refine S_gd (fun c12 => ?_)
          refine s_aald (pc := 35) c11 c12 (by decide +kernel) ?_
          refine s_iload_n (pc := 36) (k0 := 2) (i := 2) rfl 2 rfl (by decide +kernel) ?_
          refine s_iload_n (pc := 37) (k0 := 3) (i := 3) rfl 3 rfl (by decide +kernel) ?_
          refine S_gd (fun c13 => ?_)
          refine s_cVi (pc := 38) [.int a2, .int a3] (tX4_placesWithin (hR g7 (hR g7 a0 0) a1.toNatClampNeg) a2 a3 g7) c13 cw_X6_320 rfl ⟨⟨Nat.le_of_ble_eq_true rfl, Nat.le_of_ble_eq_true rfl⟩, Nat.le_of_ble_eq_true rfl⟩ rfl (by decide +kernel) (fun w16 g14 e15 => ?_)
          exact s_iret (pc := 41) rfl (by decide +kernel)
        · refine s_iconst (pc := 28) (n := -1) (v := (-1 : Int32)) (by decide) (by decide +kernel) ?_
          exact s_iret (pc := 29) rfl (by decide +kernel)
theorem tX6_places (a0 : Nat) (a1 : Int32) (a2 : Int32) (a3 : Int32) (h : xH) : Ct yX6_places kX6_places emI [.ref a0, .int a1, .int a2, .int a3] h (fX6_places a0 a1 a2 a3 h) := Ct_of (by decide +kernel) rfl rfl rfl (Nat.le_of_ble_eq_true rfl) rfl (pX6_places_e a0 a1 a2 a3 h)
def fX6_trySplit_b100   (a0 : Nat) (a4 : Int32) (h : xH) : Option (Unit × xH) :=
  if kc h a0 = 6 then
  if kc h (hR h a0 11) = 2 then
  if kc h (hR h a0 13) = 2 then
  bd (fX2_assign (hR h a0 13) (hJ h (hR h a0 11) 1) (hJ h (hR h a0 11) 2) h) (fun _ g4 =>
  lt (sI g4 a0 14 a4) (fun g7 =>
  some ((), g7)))
  else none
  else none
  else none
def fX6_trySplit_b79  (s0 : Int32) (a0 : Nat) (a4 : Int32) (h : xH) : Option (Unit × xH) :=
  if s0 < 0 then (
  fX6_trySplit_b100 a0 a4 h)
  else (
  if s0 = 0 then (
  if kc h a0 = 6 then
  if (hI h a0 14) ≤ a4 then (
  some ((), h))
  else (
  fX6_trySplit_b100 a0 a4 h)
  else none)
  else (
  some ((), h)))
def fX6_trySplit   (a0 : Nat) (a1 : Nat) (a2 : Nat) (a3 : Int32) (a4 : Int32) (h : xH) : Option (Unit × xH) :=
  if kc h a0 = 6 then
  if kc h a1 = 4 then
  bd (fX4_valueAt a1 a4 (hR h a0 11) h) (fun _ g3 =>
  if kc g3 a2 = 4 then
  bd (fX4_valueAt a2 (a3 - a4) (hR g3 a0 12) g3) (fun _ g7 =>
  if kc g7 (hR g7 a0 11) = 2 then
  if (hI g7 (hR g7 a0 11) 0) = 0 then (
  some ((), g7))
  else (
  if kc g7 (hR g7 a0 12) = 2 then
  if (hI g7 (hR g7 a0 12) 0) = 0 then (
  some ((), g7))
  else (
  bd (fX2_add (hR g7 a0 11) (hR g7 a0 12) g7) (fun _ g12 =>
  if kc g12 (hR g12 a0 13) = 2 then
  if (hI g12 (hR g12 a0 13) 0) = 0 then (
  fX6_trySplit_b79 (-1 : Int32) a0 a4 g12)
  else (
  if kc g12 (hR g12 a0 11) = 2 then
  bd (fX2_orderTo (hR g12 a0 11) (hR g12 a0 13) g12) (fun w19 g17 =>
  fX6_trySplit_b79 w19 a0 a4 g17)
  else none)
  else none))
  else none)
  else none)
  else none)
  else none
  else none
theorem pX6_trySplit_b100 {h0 : xH}    (a0 : Nat) (a4 : Int32) (h : xH) : S emV kX6_trySplit h0 100 [(0, .ref a0), (4, .int a4)] [] h (fX6_trySplit_b100  a0 a4 h) := by
  unfold fX6_trySplit_b100
  refine s_aload_n (pc := 100) (k0 := 0) (i := 0) rfl 0 rfl (by decide +kernel) ?_
  refine S_gd (fun c1 => ?_)
  refine s_getR (pc := 101) (k := 13) c1 ft_X6_78 rfl (by decide +kernel) ?_
  refine s_aload_n (pc := 104) (k0 := 0) (i := 0) rfl 0 rfl (by decide +kernel) ?_
  refine s_getR (pc := 105) (k := 11) c1 ft_X6_71 rfl (by decide +kernel) ?_
  refine S_gd (fun c2 => ?_)
  refine s_getJ (pc := 108) (k := 1) c2 ft_X6_256 rfl (by decide +kernel) ?_
  refine s_aload_n (pc := 111) (k0 := 0) (i := 0) rfl 0 rfl (by decide +kernel) ?_
  refine s_getR (pc := 112) (k := 11) c1 ft_X6_71 rfl (by decide +kernel) ?_
  refine s_getJ (pc := 115) (k := 2) c2 ft_X6_260 rfl (by decide +kernel) ?_
  refine S_gd (fun c3 => ?_)
  refine s_cVv (pc := 118) [.long (hJ h (hR h a0 11) 1), .long (hJ h (hR h a0 11) 2)] (tX2_assign (hR h a0 13) (hJ h (hR h a0 11) 1) (hJ h (hR h a0 11) 2) h) c3 cw_X6_221 rfl ⟨⟨Nat.le_of_ble_eq_true rfl, Nat.le_of_ble_eq_true rfl⟩, Nat.le_of_ble_eq_true rfl⟩ rfl (by decide +kernel) (fun _ g4 e5 => ?_)
  refine s_aload_n (pc := 121) (k0 := 0) (i := 0) rfl 0 rfl (by decide +kernel) ?_
  refine s_iload (pc := 122) (i := 4) 1 rfl (by decide +kernel) ?_
  have c6 := kp e5 c1 (by decide)
  refine s_putI (pc := 124) (k := 14) c6 ft_X6_81 (fw_6_14 _ _) rfl rfl (by decide +kernel) ?_
  refine s_nmH (o := g4) rfl (fun g7 e8 => ?_)
  exact s_vret (pc := 127) rfl (by decide +kernel)
theorem pX6_trySplit_b79 {h0 : xH}   (s0 : Int32) (a0 : Nat) (a4 : Int32) (h : xH) : S emV kX6_trySplit h0 79 [(0, .ref a0), (4, .int a4)] [.int s0] h (fX6_trySplit_b79 s0 a0 a4 h) := by
  unfold fX6_trySplit_b79
  refine s_istore (pc := 79) (L' := [(5, .int s0), (0, .ref a0), (4, .int a4)]) (i := 5) (by decide) rfl (by decide +kernel) ?_
  refine s_iload (pc := 81) (i := 5) 0 rfl (by decide +kernel) ?_
  refine s_if_lt (pc := 83) (off := 17) 100 (by decide +kernel) (by decide) (fun _ => ?_) (fun _ => ?_)
  · refine S_sub [1, 2] rfl ?_
    exact pX6_trySplit_b100 a0 a4 h
  · refine s_iload (pc := 86) (i := 5) 0 rfl (by decide +kernel) ?_
    refine s_if_ne (pc := 88) (off := 39) 127 (by decide +kernel) (by decide) (fun _ => ?_) (fun _ => ?_)
    · refine s_iload (pc := 91) (i := 4) 2 rfl (by decide +kernel) ?_
      refine s_aload_n (pc := 93) (k0 := 0) (i := 0) rfl 1 rfl (by decide +kernel) ?_
      refine S_gd (fun c1 => ?_)
      refine s_getI (pc := 94) (k := 14) c1 ft_X6_81 rfl (by decide +kernel) ?_
      refine s_icmp_ge (pc := 97) (off := 30) 127 (by decide +kernel) (by decide) (fun _ => ?_) (fun _ => ?_)
      · exact s_vret (pc := 127) rfl (by decide +kernel)
      · refine S_sub [1, 2] rfl ?_
        exact pX6_trySplit_b100 a0 a4 h
    · exact s_vret (pc := 127) rfl (by decide +kernel)
theorem pX6_trySplit_e    (a0 : Nat) (a1 : Nat) (a2 : Nat) (a3 : Int32) (a4 : Int32) (h : xH) : S emV kX6_trySplit h 0 [(0, .ref a0), (1, .ref a1), (2, .ref a2), (3, .int a3), (4, .int a4)] [] h (fX6_trySplit  a0 a1 a2 a3 a4 h) := by
  unfold fX6_trySplit
  refine s_aload_n (pc := 0) (k0 := 1) (i := 1) rfl 1 rfl (by decide +kernel) ?_
  refine s_iload (pc := 1) (i := 4) 4 rfl (by decide +kernel) ?_
  refine s_aload_n (pc := 3) (k0 := 0) (i := 0) rfl 0 rfl (by decide +kernel) ?_
  refine S_gd (fun c1 => ?_)
  refine s_getR (pc := 4) (k := 11) c1 ft_X6_71 rfl (by decide +kernel) ?_
  refine S_gd (fun c2 => ?_)
  refine s_cVv (pc := 7) [.int a4, .ref (hR h a0 11)] (tX4_valueAt a1 a4 (hR h a0 11) h) c2 cw_X6_248 rfl ⟨⟨Nat.le_of_ble_eq_true rfl, Nat.le_of_ble_eq_true rfl⟩, Nat.le_of_ble_eq_true rfl⟩ rfl (by decide +kernel) (fun _ g3 e4 => ?_)
  refine s_aload_n (pc := 10) (k0 := 2) (i := 2) rfl 2 rfl (by decide +kernel) ?_
  refine s_iload_n (pc := 11) (k0 := 3) (i := 3) rfl 3 rfl (by decide +kernel) ?_
  refine s_iload (pc := 12) (i := 4) 4 rfl (by decide +kernel) ?_
  refine s_isub (pc := 14) (by decide +kernel) ?_
  refine s_aload_n (pc := 15) (k0 := 0) (i := 0) rfl 0 rfl (by decide +kernel) ?_
  have c5 := kp e4 c1 (by decide)
  refine s_getR (pc := 16) (k := 12) c5 ft_X6_75 rfl (by decide +kernel) ?_
  refine S_gd (fun c6 => ?_)
  refine s_cVv (pc := 19) [.int (a3 - a4), .ref (hR g3 a0 12)] (tX4_valueAt a2 (a3 - a4) (hR g3 a0 12) g3) c6 cw_X6_248 rfl ⟨⟨Nat.le_of_ble_eq_true rfl, Nat.le_of_ble_eq_true rfl⟩, Nat.le_of_ble_eq_true rfl⟩ rfl (by decide +kernel) (fun _ g7 e8 => ?_)
  refine s_aload_n (pc := 22) (k0 := 0) (i := 0) rfl 0 rfl (by decide +kernel) ?_
  have c9 := kp e8 c5 (by decide)
  refine s_getR (pc := 23) (k := 11) c9 ft_X6_71 rfl (by decide +kernel) ?_
  refine S_gd (fun c10 => ?_)
  refine s_getI (pc := 26) (k := 0) c10 ft_X6_252 rfl (by decide +kernel) ?_
  refine s_if_eq (pc := 29) (off := 13) 42 (by decide +kernel) (by decide) (fun _ => ?_) (fun _ => ?_)
  · exact s_vret (pc := 42) rfl (by decide +kernel)
  · refine s_aload_n (pc := 32) (k0 := 0) (i := 0) rfl 0 rfl (by decide +kernel) ?_
    refine s_getR (pc := 33) (k := 12) c9 ft_X6_75 rfl (by decide +kernel) ?_
    refine S_gd (fun c11 => ?_)
    refine s_getI (pc := 36) (k := 0) c11 ft_X6_252 rfl (by decide +kernel) ?_
    refine s_if_ne (pc := 39) (off := 4) 43 (by decide +kernel) (by decide) (fun _ => ?_) (fun _ => ?_)
    · exact s_vret (pc := 42) rfl (by decide +kernel)
    · refine s_aload_n (pc := 43) (k0 := 0) (i := 0) rfl 0 rfl (by decide +kernel) ?_
      refine s_getR (pc := 44) (k := 11) c9 ft_X6_71 rfl (by decide +kernel) ?_
      refine s_aload_n (pc := 47) (k0 := 0) (i := 0) rfl 0 rfl (by decide +kernel) ?_
      refine s_getR (pc := 48) (k := 12) c9 ft_X6_75 rfl (by decide +kernel) ?_
      refine s_cVv (pc := 51) [.ref (hR g7 a0 12)] (tX2_add (hR g7 a0 11) (hR g7 a0 12) g7) c10 cw_X6_332 rfl ⟨⟨Nat.le_of_ble_eq_true rfl, Nat.le_of_ble_eq_true rfl⟩, Nat.le_of_ble_eq_true rfl⟩ rfl (by decide +kernel) (fun _ g12 e13 => ?_)
      refine s_aload_n (pc := 54) (k0 := 0) (i := 0) rfl 0 rfl (by decide +kernel) ?_
      have c14 := kp e13 c9 (by decide)
      refine s_getR (pc := 55) (k := 13) c14 ft_X6_78 rfl (by decide +kernel) ?_
      refine S_gd (fun c15 => ?_)
      refine s_getI (pc := 58) (k := 0) c15 ft_X6_252 rfl (by decide +kernel) ?_
      refine s_if_eq (pc := 61) (off := 17) 78 (by decide +kernel) (by decide) (fun _ => ?_) (fun _ => ?_)
      · refine s_iconst (pc := 78) (n := -1) (v := (-1 : Int32)) (by decide) (by decide +kernel) ?_
        refine S_sub [0, 4] rfl ?_
        exact pX6_trySplit_b79 (-1 : Int32) a0 a4 g12
      · refine s_aload_n (pc := 64) (k0 := 0) (i := 0) rfl 0 rfl (by decide +kernel) ?_
        refine s_getR (pc := 65) (k := 11) c14 ft_X6_71 rfl (by decide +kernel) ?_
        refine s_aload_n (pc := 68) (k0 := 0) (i := 0) rfl 0 rfl (by decide +kernel) ?_
        refine s_getR (pc := 69) (k := 13) c14 ft_X6_78 rfl (by decide +kernel) ?_
        refine S_gd (fun c16 => ?_)
        refine s_cVi (pc := 72) [.ref (hR g12 a0 13)] (tX2_orderTo (hR g12 a0 11) (hR g12 a0 13) g12) c16 cw_X6_336 rfl ⟨⟨Nat.le_of_ble_eq_true rfl, Nat.le_of_ble_eq_true rfl⟩, Nat.le_of_ble_eq_true rfl⟩ rfl (by decide +kernel) (fun w19 g17 e18 => ?_)
        refine s_goto (pc := 75) (off := 4) 79 (by decide +kernel) (by decide) ?_
        refine S_sub [0, 4] rfl ?_
        exact pX6_trySplit_b79 w19 a0 a4 g17
theorem tX6_trySplit (a0 : Nat) (a1 : Nat) (a2 : Nat) (a3 : Int32) (a4 : Int32) (h : xH) : Ct yX6_trySplit kX6_trySplit emV [.ref a0, .ref a1, .ref a2, .int a3, .int a4] h (fX6_trySplit a0 a1 a2 a3 a4 h) := Ct_of (by decide +kernel) rfl rfl rfl (Nat.le_of_ble_eq_true rfl) rfl (pX6_trySplit_e a0 a1 a2 a3 a4 h)
def fX6_findSplit_b46 (r46 : Nat → Nat → Nat → Int32 → Int32 → xH → Option (Unit × xH))  (a0 : Nat) (a1 : Nat) (a2 : Nat) (a3 : Int32) (a4 : Int32) (h : xH) : Option (Unit × xH) :=
  if kc h a2 = 4 then
  if (hI h a2 0) ≤ a4 then (
  some ((), h))
  else (
  bd (fX4_xAt a2 a4 h) (fun w4 g2 =>
  if kc g2 a0 = 6 then
  bd (fX6_trySplit a0 a1 a2 a3 (a3 - w4) g2) (fun _ g6 =>
  lt (a4 + (1 : Int32)) (fun v8 =>
  r46 a0 a1 a2 a3 v8 g6))
  else none))
  else none
def fX6_findSplit_l46  : Nat → Nat → Nat → Nat → Int32 → Int32 → xH → Option (Unit × xH)
  | 0 => fun _ _ _ _ _ _ => none
  | k + 1 => fX6_findSplit_b46 (fX6_findSplit_l46  k)
def fX6_findSplit_b15 (r15 : Nat → Nat → Nat → Int32 → Int32 → xH → Option (Unit × xH))  (a0 : Nat) (a1 : Nat) (a2 : Nat) (a3 : Int32) (a4 : Int32) (h : xH) : Option (Unit × xH) :=
  if kc h a1 = 4 then
  if (hI h a1 0) ≤ a4 then (
  lt (0 : Int32) (fun v2 =>
  fX6_findSplit_l46 FU a0 a1 a2 a3 v2 h))
  else (
  bd (fX4_xAt a1 a4 h) (fun w5 g3 =>
  if kc g3 a0 = 6 then
  bd (fX6_trySplit a0 a1 a2 a3 w5 g3) (fun _ g7 =>
  lt (a4 + (1 : Int32)) (fun v9 =>
  r15 a0 a1 a2 a3 v9 g7))
  else none))
  else none
def fX6_findSplit_l15  : Nat → Nat → Nat → Nat → Int32 → Int32 → xH → Option (Unit × xH)
  | 0 => fun _ _ _ _ _ _ => none
  | k + 1 => fX6_findSplit_b15 (fX6_findSplit_l15  k)
def fX6_findSplit   (a0 : Nat) (a1 : Nat) (a2 : Nat) (a3 : Int32) (h : xH) : Option (Unit × xH) :=
  if kc h a0 = 6 then
  if kc h (hR h a0 13) = 2 then
  bd (fX2_forget (hR h a0 13) h) (fun _ g3 =>
  lt (sI g3 a0 14 (0 : Int32)) (fun g6 =>
  lt (0 : Int32) (fun v8 =>
  fX6_findSplit_l15 FU a0 a1 a2 a3 v8 g6)))
  else none
  else none
theorem pX6_findSplit_b46 {h0 : xH} {r46 : Nat → Nat → Nat → Int32 → Int32 → xH → Option (Unit × xH)} (hr46 : ∀  (a0 : Nat) (a1 : Nat) (a2 : Nat) (a3 : Int32) (a4 : Int32) (g : xH), S emV kX6_findSplit h0 46 [(0, .ref a0), (1, .ref a1), (2, .ref a2), (3, .int a3), (4, .int a4)] [] g (r46  a0 a1 a2 a3 a4 g))  (a0 : Nat) (a1 : Nat) (a2 : Nat) (a3 : Int32) (a4 : Int32) (h : xH) : S emV kX6_findSplit h0 46 [(0, .ref a0), (1, .ref a1), (2, .ref a2), (3, .int a3), (4, .int a4)] [] h (fX6_findSplit_b46 r46 a0 a1 a2 a3 a4 h) := by
  unfold fX6_findSplit_b46
  refine s_iload (pc := 46) (i := 4) 4 rfl (by decide +kernel) ?_
  refine s_aload_n (pc := 48) (k0 := 2) (i := 2) rfl 2 rfl (by decide +kernel) ?_
  refine S_gd (fun c1 => ?_)
  refine s_getI (pc := 49) (k := 0) c1 ft_X6_134 rfl (by decide +kernel) ?_
  refine s_icmp_ge (pc := 52) (off := 24) 76 (by decide +kernel) (by decide) (fun _ => ?_) (fun _ => ?_)
  · exact s_vret (pc := 76) rfl (by decide +kernel)
  · refine s_aload_n (pc := 55) (k0 := 0) (i := 0) rfl 0 rfl (by decide +kernel) ?_
    refine s_aload_n (pc := 56) (k0 := 1) (i := 1) rfl 1 rfl (by decide +kernel) ?_
    refine s_aload_n (pc := 57) (k0 := 2) (i := 2) rfl 2 rfl (by decide +kernel) ?_
    refine s_iload_n (pc := 58) (k0 := 3) (i := 3) rfl 3 rfl (by decide +kernel) ?_
    refine s_iload_n (pc := 59) (k0 := 3) (i := 3) rfl 3 rfl (by decide +kernel) ?_
    refine s_aload_n (pc := 60) (k0 := 2) (i := 2) rfl 2 rfl (by decide +kernel) ?_
    refine s_iload (pc := 61) (i := 4) 4 rfl (by decide +kernel) ?_
    refine s_cVi (pc := 63) [.int a4] (tX4_xAt a2 a4 h) c1 cw_X6_239 rfl ⟨⟨Nat.le_of_ble_eq_true rfl, Nat.le_of_ble_eq_true rfl⟩, Nat.le_of_ble_eq_true rfl⟩ rfl (by decide +kernel) (fun w4 g2 e3 => ?_)
    refine s_isub (pc := 66) (by decide +kernel) ?_
    refine S_gd (fun c5 => ?_)
    refine s_cVv (pc := 67) [.ref a1, .ref a2, .int a3, .int (a3 - w4)] (tX6_trySplit a0 a1 a2 a3 (a3 - w4) g2) c5 cw_X6_328 rfl ⟨⟨Nat.le_of_ble_eq_true rfl, Nat.le_of_ble_eq_true rfl⟩, Nat.le_of_ble_eq_true rfl⟩ rfl (by decide +kernel) (fun _ g6 e7 => ?_)
    refine s_iinc (pc := 70) (L' := [(4, .int (a4 + (1 : Int32))), (0, .ref a0), (1, .ref a1), (2, .ref a2), (3, .int a3)]) (i := 4) (n := 1) 4 rfl rfl (by decide) rfl (by decide +kernel) ?_
    refine s_nmI0 (e := a4 + (1 : Int32)) (L := fun v8 => [(4, .int v8), (0, .ref a0), (1, .ref a1), (2, .ref a2), (3, .int a3)]) (fun v8 => ?_)
    refine s_goto (pc := 73) (off := -27) 46 (by decide +kernel) (by decide) ?_
    refine S_sub [1, 2, 3, 4, 0] rfl ?_
    exact hr46 a0 a1 a2 a3 v8 g6
theorem pX6_findSplit_l46 {h0 : xH}   : ∀ (k : Nat)  (a0 : Nat) (a1 : Nat) (a2 : Nat) (a3 : Int32) (a4 : Int32) (h : xH), S emV kX6_findSplit h0 46 [(0, .ref a0), (1, .ref a1), (2, .ref a2), (3, .int a3), (4, .int a4)] [] h (fX6_findSplit_l46  k  a0 a1 a2 a3 a4 h) := by
  intro k
  induction k with
  | zero => intros; exact S_none
  | succ k ih => intro  a0 a1 a2 a3 a4 h; exact pX6_findSplit_b46 ih  a0 a1 a2 a3 a4 h
theorem pX6_findSplit_b15 {h0 : xH} {r15 : Nat → Nat → Nat → Int32 → Int32 → xH → Option (Unit × xH)} (hr15 : ∀  (a0 : Nat) (a1 : Nat) (a2 : Nat) (a3 : Int32) (a4 : Int32) (g : xH), S emV kX6_findSplit h0 15 [(0, .ref a0), (1, .ref a1), (2, .ref a2), (3, .int a3), (4, .int a4)] [] g (r15  a0 a1 a2 a3 a4 g))  (a0 : Nat) (a1 : Nat) (a2 : Nat) (a3 : Int32) (a4 : Int32) (h : xH) : S emV kX6_findSplit h0 15 [(0, .ref a0), (1, .ref a1), (2, .ref a2), (3, .int a3), (4, .int a4)] [] h (fX6_findSplit_b15 r15 a0 a1 a2 a3 a4 h) := by
  unfold fX6_findSplit_b15
  refine s_iload (pc := 15) (i := 4) 4 rfl (by decide +kernel) ?_
  refine s_aload_n (pc := 17) (k0 := 1) (i := 1) rfl 1 rfl (by decide +kernel) ?_
  refine S_gd (fun c1 => ?_)
  refine s_getI (pc := 18) (k := 0) c1 ft_X6_134 rfl (by decide +kernel) ?_
  refine s_icmp_ge (pc := 21) (off := 22) 43 (by decide +kernel) (by decide) (fun _ => ?_) (fun _ => ?_)
  · refine s_iconst (pc := 43) (n := 0) (v := (0 : Int32)) (by decide) (by decide +kernel) ?_
    refine s_nmI (fun v2 => ?_)
    refine s_istore (pc := 44) (L' := [(4, .int v2), (0, .ref a0), (1, .ref a1), (2, .ref a2), (3, .int a3)]) (i := 4) (by decide) rfl (by decide +kernel) ?_
    refine S_sub [1, 2, 3, 4, 0] rfl ?_
    exact pX6_findSplit_l46 FU a0 a1 a2 a3 v2 h
  · refine s_aload_n (pc := 24) (k0 := 0) (i := 0) rfl 0 rfl (by decide +kernel) ?_
    refine s_aload_n (pc := 25) (k0 := 1) (i := 1) rfl 1 rfl (by decide +kernel) ?_
    refine s_aload_n (pc := 26) (k0 := 2) (i := 2) rfl 2 rfl (by decide +kernel) ?_
    refine s_iload_n (pc := 27) (k0 := 3) (i := 3) rfl 3 rfl (by decide +kernel) ?_
    refine s_aload_n (pc := 28) (k0 := 1) (i := 1) rfl 1 rfl (by decide +kernel) ?_
    refine s_iload (pc := 29) (i := 4) 4 rfl (by decide +kernel) ?_
    refine s_cVi (pc := 31) [.int a4] (tX4_xAt a1 a4 h) c1 cw_X6_239 rfl ⟨⟨Nat.le_of_ble_eq_true rfl, Nat.le_of_ble_eq_true rfl⟩, Nat.le_of_ble_eq_true rfl⟩ rfl (by decide +kernel) (fun w5 g3 e4 => ?_)
    refine S_gd (fun c6 => ?_)
    refine s_cVv (pc := 34) [.ref a1, .ref a2, .int a3, .int w5] (tX6_trySplit a0 a1 a2 a3 w5 g3) c6 cw_X6_328 rfl ⟨⟨Nat.le_of_ble_eq_true rfl, Nat.le_of_ble_eq_true rfl⟩, Nat.le_of_ble_eq_true rfl⟩ rfl (by decide +kernel) (fun _ g7 e8 => ?_)
    refine s_iinc (pc := 37) (L' := [(4, .int (a4 + (1 : Int32))), (0, .ref a0), (1, .ref a1), (2, .ref a2), (3, .int a3)]) (i := 4) (n := 1) 4 rfl rfl (by decide) rfl (by decide +kernel) ?_
    refine s_nmI0 (e := a4 + (1 : Int32)) (L := fun v9 => [(4, .int v9), (0, .ref a0), (1, .ref a1), (2, .ref a2), (3, .int a3)]) (fun v9 => ?_)
    refine s_goto (pc := 40) (off := -25) 15 (by decide +kernel) (by decide) ?_
    refine S_sub [1, 2, 3, 4, 0] rfl ?_
    exact hr15 a0 a1 a2 a3 v9 g7
theorem pX6_findSplit_l15 {h0 : xH}   : ∀ (k : Nat)  (a0 : Nat) (a1 : Nat) (a2 : Nat) (a3 : Int32) (a4 : Int32) (h : xH), S emV kX6_findSplit h0 15 [(0, .ref a0), (1, .ref a1), (2, .ref a2), (3, .int a3), (4, .int a4)] [] h (fX6_findSplit_l15  k  a0 a1 a2 a3 a4 h) := by
  intro k
  induction k with
  | zero => intros; exact S_none
  | succ k ih => intro  a0 a1 a2 a3 a4 h; exact pX6_findSplit_b15 ih  a0 a1 a2 a3 a4 h
theorem pX6_findSplit_e    (a0 : Nat) (a1 : Nat) (a2 : Nat) (a3 : Int32) (h : xH) : S emV kX6_findSplit h 0 [(0, .ref a0), (1, .ref a1), (2, .ref a2), (3, .int a3)] [] h (fX6_findSplit  a0 a1 a2 a3 h) := by
  unfold fX6_findSplit
  refine s_aload_n (pc := 0) (k0 := 0) (i := 0) rfl 0 rfl (by decide +kernel) ?_
  refine S_gd (fun c1 => ?_)
  refine s_getR (pc := 1) (k := 13) c1 ft_X6_78 rfl (by decide +kernel) ?_
  refine S_gd (fun c2 => ?_)
  refine s_cVv (pc := 4) [] (tX2_forget (hR h a0 13) h) c2 cw_X6_327 rfl ⟨⟨Nat.le_of_ble_eq_true rfl, Nat.le_of_ble_eq_true rfl⟩, Nat.le_of_ble_eq_true rfl⟩ rfl (by decide +kernel) (fun _ g3 e4 => ?_)
  refine s_aload_n (pc := 7) (k0 := 0) (i := 0) rfl 0 rfl (by decide +kernel) ?_
  refine s_iconst (pc := 8) (n := 0) (v := (0 : Int32)) (by decide) (by decide +kernel) ?_
  have c5 := kp e4 c1 (by decide)
  refine s_putI (pc := 9) (k := 14) c5 ft_X6_81 (fw_6_14 _ _) rfl rfl (by decide +kernel) ?_
  refine s_nmH (o := g3) rfl (fun g6 e7 => ?_)
  refine s_iconst (pc := 12) (n := 0) (v := (0 : Int32)) (by decide) (by decide +kernel) ?_
  refine s_nmI (fun v8 => ?_)
  refine s_istore (pc := 13) (L' := [(4, .int v8), (0, .ref a0), (1, .ref a1), (2, .ref a2), (3, .int a3)]) (i := 4) (by decide) rfl (by decide +kernel) ?_
  refine S_sub [1, 2, 3, 4, 0] rfl ?_
  exact pX6_findSplit_l15 FU a0 a1 a2 a3 v8 g6
theorem tX6_findSplit (a0 : Nat) (a1 : Nat) (a2 : Nat) (a3 : Int32) (h : xH) : Ct yX6_findSplit kX6_findSplit emV [.ref a0, .ref a1, .ref a2, .int a3] h (fX6_findSplit a0 a1 a2 a3 h) := Ct_of (by decide +kernel) rfl rfl rfl (Nat.le_of_ble_eq_true rfl) rfl (pX6_findSplit_e a0 a1 a2 a3 h)
def fX6_split   (a0 : Nat) (a1 : Int32) (a2 : Int32) (a3 : Int32) (a4 : Int32) (h : xH) : Option (Int64 × xH) :=
  bd (fX6_isStore a1 h) (fun w3 g1 =>
  if w3 = 0 then (
  some ((-9223372036854775808 : Int64), g1))
  else (
  bd (fX6_isStore a2 g1) (fun w6 g4 =>
  if w6 = 0 then (
  some ((-9223372036854775808 : Int64), g4))
  else (
  bd (fX6_isPlace a3.toInt64 g4) (fun w9 g7 =>
  if w9 = 0 then (
  some ((-9223372036854775808 : Int64), g7))
  else (
  if a4 < 0 then (
  some ((-9223372036854775808 : Int64), g7))
  else (
  if a4 ≤ (3 : Int32) then (
  if kc g7 a0 = 6 then
  if kc g7 (hR g7 a0 0) = 12 then
  if ix a1 (kl g7 (hR g7 a0 0)) then
  if ix a2 (kl g7 (hR g7 a0 0)) then
  bd (fX6_findSplit a0 (hR g7 (hR g7 a0 0) a1.toNatClampNeg) (hR g7 (hR g7 a0 0) a2.toNatClampNeg) a3 g7) (fun _ g14 =>
  if kc g14 (hR g14 a0 13) = 2 then
  if (hI g14 (hR g14 a0 13) 0) = 0 then (
  some ((-9223372036854775808 : Int64), g14))
  else (
  if (2 : Int32) ≤ a4 then (
  if kc g14 (hR g14 a0 11) = 2 then
  bd (fX2_assign (hR g14 a0 11) ((hI g14 a0 14).toInt64) (1 : Int64) g14) (fun _ g19 =>
  bd (fX6_tellNumber (hR g19 a0 11) (a4 - (2 : Int32)) g19) (fun w24 g22 =>
  some (w24, g22)))
  else none)
  else (
  bd (fX6_tellNumber (hR g14 a0 13) a4 g14) (fun w27 g25 =>
  some (w27, g25))))
  else none)
  else none
  else none
  else none
  else none)
  else (
  some ((-9223372036854775808 : Int64), g7)))))))))
theorem pX6_split_e    (a0 : Nat) (a1 : Int32) (a2 : Int32) (a3 : Int32) (a4 : Int32) (h : xH) : S emJ kX6_split h 0 [(0, .ref a0), (1, .int a1), (2, .int a2), (3, .int a3), (4, .int a4)] [] h (fX6_split  a0 a1 a2 a3 a4 h) := by
  unfold fX6_split
  refine s_iload_n (pc := 0) (k0 := 1) (i := 1) rfl 1 rfl (by decide +kernel) ?_
  refine s_cSi (pc := 1) [.int a1] (tX6_isStore a1 h) cw_X6_97 rfl ⟨⟨Nat.le_of_ble_eq_true rfl, Nat.le_of_ble_eq_true rfl⟩, Nat.le_of_ble_eq_true rfl⟩ rfl (by decide +kernel) (fun w3 g1 e2 => ?_)
  refine s_if_eq (pc := 4) (off := 29) 33 (by decide +kernel) (by decide) (fun _ => ?_) (fun _ => ?_)
  · refine s_ldc2 (pc := 33) (v := (-9223372036854775808 : Int64)) (index := 212) (gd_of 641 (by decide +kernel) rfl) (by decide +kernel) ?_
    exact s_lret (pc := 36) rfl (by decide +kernel)
  · refine s_iload_n (pc := 7) (k0 := 2) (i := 2) rfl 2 rfl (by decide +kernel) ?_
    refine s_cSi (pc := 8) [.int a2] (tX6_isStore a2 g1) cw_X6_97 rfl ⟨⟨Nat.le_of_ble_eq_true rfl, Nat.le_of_ble_eq_true rfl⟩, Nat.le_of_ble_eq_true rfl⟩ rfl (by decide +kernel) (fun w6 g4 e5 => ?_)
    refine s_if_eq (pc := 11) (off := 22) 33 (by decide +kernel) (by decide) (fun _ => ?_) (fun _ => ?_)
    · refine s_ldc2 (pc := 33) (v := (-9223372036854775808 : Int64)) (index := 212) (gd_of 641 (by decide +kernel) rfl) (by decide +kernel) ?_
      exact s_lret (pc := 36) rfl (by decide +kernel)
    · refine s_iload_n (pc := 14) (k0 := 3) (i := 3) rfl 3 rfl (by decide +kernel) ?_
      refine s_i2l (pc := 15) (by decide +kernel) ?_
      refine s_cSi (pc := 16) [.long a3.toInt64] (tX6_isPlace a3.toInt64 g4) cw_X6_123 rfl ⟨⟨Nat.le_of_ble_eq_true rfl, Nat.le_of_ble_eq_true rfl⟩, Nat.le_of_ble_eq_true rfl⟩ rfl (by decide +kernel) (fun w9 g7 e8 => ?_)
      refine s_if_eq (pc := 19) (off := 14) 33 (by decide +kernel) (by decide) (fun _ => ?_) (fun _ => ?_)
      · refine s_ldc2 (pc := 33) (v := (-9223372036854775808 : Int64)) (index := 212) (gd_of 641 (by decide +kernel) rfl) (by decide +kernel) ?_
        exact s_lret (pc := 36) rfl (by decide +kernel)
      · refine s_iload (pc := 22) (i := 4) 4 rfl (by decide +kernel) ?_
        refine s_if_lt (pc := 24) (off := 9) 33 (by decide +kernel) (by decide) (fun _ => ?_) (fun _ => ?_)
        · refine s_ldc2 (pc := 33) (v := (-9223372036854775808 : Int64)) (index := 212) (gd_of 641 (by decide +kernel) rfl) (by decide +kernel) ?_
          exact s_lret (pc := 36) rfl (by decide +kernel)
        · refine s_iload (pc := 27) (i := 4) 4 rfl (by decide +kernel) ?_
          refine s_iconst (pc := 29) (n := 3) (v := (3 : Int32)) (by decide) (by decide +kernel) ?_
          refine s_icmp_le (pc := 30) (off := 7) 37 (by decide +kernel) (by decide) (fun _ => ?_) (fun _ => ?_)
          · refine s_aload_n (pc := 37) (k0 := 0) (i := 0) rfl 0 rfl (by decide +kernel) ?_
            refine s_aload_n (pc := 38) (k0 := 0) (i := 0) rfl 0 rfl (by decide +kernel) ?_
            refine S_gd (fun c10 => ?_)
            refine s_getR (pc := 39) (k := 0) c10 ft_X6_15 rfl (by decide +kernel) ?_
            refine s_iload_n (pc := 42) (k0 := 1) (i := 1) rfl 1 rfl (by decide +kernel) ?_
            refine S_gd (fun c11 => ?_)
            refine S_gd (fun c12 => ?_)
            refine s_aald (pc := 43) c11 c12 (by decide +kernel) ?_
            refine s_aload_n (pc := 44) (k0 := 0) (i := 0) rfl 0 rfl (by decide +kernel) ?_
            refine s_getR (pc := 45) (k := 0) c10 ft_X6_15 rfl (by decide +kernel) ?_
            refine s_iload_n (pc := 48) (k0 := 2) (i := 2) rfl 2 rfl (by decide +kernel) ?_
            refine S_gd (fun c13 => ?_)
            refine s_aald (pc := 49) c11 c13 (by decide +kernel) ?_
            refine s_iload_n (pc := 50) (k0 := 3) (i := 3) rfl 3 rfl (by decide +kernel) ?_
            refine s_cVv (pc := 51) [.ref (hR g7 (hR g7 a0 0) a1.toNatClampNeg), .ref (hR g7 (hR g7 a0 0) a2.toNatClampNeg), .int a3] (tX6_findSplit a0 (hR g7 (hR g7 a0 0) a1.toNatClampNeg) (hR g7 (hR g7 a0 0) a2.toNatClampNeg) a3 g7) c10 cw_X6_323 rfl ⟨⟨Nat.le_of_ble_eq_true rfl, Nat.le_of_ble_eq_true rfl⟩, Nat.le_of_ble_eq_true rfl⟩ rfl (by decide +kernel) (fun _ g14 e15 => ?_)
            refine s_aload_n (pc := 54) (k0 := 0) (i := 0) rfl 0 rfl (by decide +kernel) ?_
            have c16 := kp e15 c10 (by decide)
            refine s_getR (pc := 55) (k := 13) c16 ft_X6_78 rfl (by decide +kernel) ?_
            refine S_gd (fun c17 => ?_)
            refine s_getI (pc := 58) (k := 0) c17 ft_X6_252 rfl (by decide +kernel) ?_
            refine s_if_ne (pc := 61) (off := 7) 68 (by decide +kernel) (by decide) (fun _ => ?_) (fun _ => ?_)
            · refine s_ldc2 (pc := 64) (v := (-9223372036854775808 : Int64)) (index := 212) (gd_of 641 (by decide +kernel) rfl) (by decide +kernel) ?_
              exact s_lret (pc := 67) rfl (by decide +kernel)
            · refine s_iload (pc := 68) (i := 4) 4 rfl (by decide +kernel) ?_
              refine s_iconst (pc := 70) (n := 2) (v := (2 : Int32)) (by decide) (by decide +kernel) ?_
              refine s_icmp_ge (pc := 71) (off := 13) 84 (by decide +kernel) (by decide) (fun _ => ?_) (fun _ => ?_)
              · refine s_aload_n (pc := 84) (k0 := 0) (i := 0) rfl 0 rfl (by decide +kernel) ?_
                refine s_getR (pc := 85) (k := 11) c16 ft_X6_71 rfl (by decide +kernel) ?_
                refine s_aload_n (pc := 88) (k0 := 0) (i := 0) rfl 0 rfl (by decide +kernel) ?_
                refine s_getI (pc := 89) (k := 14) c16 ft_X6_81 rfl (by decide +kernel) ?_
                refine s_i2l (pc := 92) (by decide +kernel) ?_
                refine s_lconst (pc := 93) (n := 1) (v := (1 : Int64)) (by decide) (by decide +kernel) ?_
                refine S_gd (fun c18 => ?_)
                refine s_cVv (pc := 94) [.long ((hI g14 a0 14).toInt64), .long (1 : Int64)] (tX2_assign (hR g14 a0 11) ((hI g14 a0 14).toInt64) (1 : Int64) g14) c18 cw_X6_221 rfl ⟨⟨Nat.le_of_ble_eq_true rfl, Nat.le_of_ble_eq_true rfl⟩, Nat.le_of_ble_eq_true rfl⟩ rfl (by decide +kernel) (fun _ g19 e20 => ?_)
                refine s_aload_n (pc := 97) (k0 := 0) (i := 0) rfl 0 rfl (by decide +kernel) ?_
                have c21 := kp e20 c16 (by decide)
                refine s_getR (pc := 98) (k := 11) c21 ft_X6_71 rfl (by decide +kernel) ?_
                refine s_iload (pc := 101) (i := 4) 4 rfl (by decide +kernel) ?_
                refine s_iconst (pc := 103) (n := 2) (v := (2 : Int32)) (by decide) (by decide +kernel) ?_
                refine s_isub (pc := 104) (by decide +kernel) ?_
                refine s_cSj (pc := 105) [.ref (hR g19 a0 11), .int (a4 - (2 : Int32))] (tX6_tellNumber (hR g19 a0 11) (a4 - (2 : Int32)) g19) cw_X6_225 rfl ⟨⟨Nat.le_of_ble_eq_true rfl, Nat.le_of_ble_eq_true rfl⟩, Nat.le_of_ble_eq_true rfl⟩ rfl (by decide +kernel) (fun w24 g22 e23 => ?_)
                exact s_lret (pc := 108) rfl (by decide +kernel)
              · refine s_aload_n (pc := 74) (k0 := 0) (i := 0) rfl 0 rfl (by decide +kernel) ?_
                refine s_getR (pc := 75) (k := 13) c16 ft_X6_78 rfl (by decide +kernel) ?_
                refine s_iload (pc := 78) (i := 4) 4 rfl (by decide +kernel) ?_
                refine s_cSj (pc := 80) [.ref (hR g14 a0 13), .int a4] (tX6_tellNumber (hR g14 a0 13) a4 g14) cw_X6_225 rfl ⟨⟨Nat.le_of_ble_eq_true rfl, Nat.le_of_ble_eq_true rfl⟩, Nat.le_of_ble_eq_true rfl⟩ rfl (by decide +kernel) (fun w27 g25 e26 => ?_)
                exact s_lret (pc := 83) rfl (by decide +kernel)
          · refine s_ldc2 (pc := 33) (v := (-9223372036854775808 : Int64)) (index := 212) (gd_of 641 (by decide +kernel) rfl) (by decide +kernel) ?_
            exact s_lret (pc := 36) rfl (by decide +kernel)
theorem tX6_split (a0 : Nat) (a1 : Int32) (a2 : Int32) (a3 : Int32) (a4 : Int32) (h : xH) : Ct yX6_split kX6_split emJ [.ref a0, .int a1, .int a2, .int a3, .int a4] h (fX6_split a0 a1 a2 a3 a4 h) := Ct_of (by decide +kernel) rfl rfl rfl (Nat.le_of_ble_eq_true rfl) rfl (pX6_split_e a0 a1 a2 a3 a4 h)
def fX6_compare   (a0 : Nat) (a1 : Int32) (a2 : Int32) (h : xH) : Option (Int32 × xH) :=
  bd (fX6_isStore a1 h) (fun w3 g1 =>
  if w3 = 0 then (
  some ((-2 : Int32), g1))
  else (
  bd (fX6_isStore a2 g1) (fun w6 g4 =>
  if w6 = 0 then (
  some ((-2 : Int32), g4))
  else (
  if kc g4 a0 = 6 then
  if kc g4 (hR g4 a0 15) = 3 then
  bd (fX3_start (hR g4 a0 15) g4) (fun _ g9 =>
  if kc g9 (hR g9 a0 0) = 12 then
  if ix a1 (kl g9 (hR g9 a0 0)) then
  if ix a2 (kl g9 (hR g9 a0 0)) then
  if kc g9 (hR g9 a0 15) = 3 then
  bd (fX3_meetAtKnotsOf (hR g9 a0 15) (hR g9 (hR g9 a0 0) a1.toNatClampNeg) (hR g9 (hR g9 a0 0) a1.toNatClampNeg) (hR g9 (hR g9 a0 0) a2.toNatClampNeg) g9) (fun _ g16 =>
  if kc g16 (hR g16 a0 0) = 12 then
  if ix a2 (kl g16 (hR g16 a0 0)) then
  if ix a1 (kl g16 (hR g16 a0 0)) then
  if kc g16 (hR g16 a0 15) = 3 then
  bd (fX3_meetAtKnotsOf (hR g16 a0 15) (hR g16 (hR g16 a0 0) a2.toNatClampNeg) (hR g16 (hR g16 a0 0) a1.toNatClampNeg) (hR g16 (hR g16 a0 0) a2.toNatClampNeg) g16) (fun _ g23 =>
  if kc g23 (hR g23 a0 15) = 3 then
  bd (fX3_verdict (hR g23 a0 15) g23) (fun w29 g27 =>
  some (w29, g27))
  else none)
  else none
  else none
  else none
  else none)
  else none
  else none
  else none
  else none)
  else none
  else none))))
theorem pX6_compare_e    (a0 : Nat) (a1 : Int32) (a2 : Int32) (h : xH) : S emI kX6_compare h 0 [(0, .ref a0), (1, .int a1), (2, .int a2)] [] h (fX6_compare  a0 a1 a2 h) := by
  unfold fX6_compare
  refine s_iload_n (pc := 0) (k0 := 1) (i := 1) rfl 1 rfl (by decide +kernel) ?_
  refine s_cSi (pc := 1) [.int a1] (tX6_isStore a1 h) cw_X6_97 rfl ⟨⟨Nat.le_of_ble_eq_true rfl, Nat.le_of_ble_eq_true rfl⟩, Nat.le_of_ble_eq_true rfl⟩ rfl (by decide +kernel) (fun w3 g1 e2 => ?_)
  refine s_if_eq (pc := 4) (off := 10) 14 (by decide +kernel) (by decide) (fun _ => ?_) (fun _ => ?_)
  · refine s_bipush (pc := 14) (n := -2) (v := (-2 : Int32)) (by decide) (by decide +kernel) ?_
    exact s_iret (pc := 16) rfl (by decide +kernel)
  · refine s_iload_n (pc := 7) (k0 := 2) (i := 2) rfl 2 rfl (by decide +kernel) ?_
    refine s_cSi (pc := 8) [.int a2] (tX6_isStore a2 g1) cw_X6_97 rfl ⟨⟨Nat.le_of_ble_eq_true rfl, Nat.le_of_ble_eq_true rfl⟩, Nat.le_of_ble_eq_true rfl⟩ rfl (by decide +kernel) (fun w6 g4 e5 => ?_)
    refine s_if_ne (pc := 11) (off := 6) 17 (by decide +kernel) (by decide) (fun _ => ?_) (fun _ => ?_)
    · refine s_bipush (pc := 14) (n := -2) (v := (-2 : Int32)) (by decide) (by decide +kernel) ?_
      exact s_iret (pc := 16) rfl (by decide +kernel)
    · refine s_aload_n (pc := 17) (k0 := 0) (i := 0) rfl 0 rfl (by decide +kernel) ?_
      refine S_gd (fun c7 => ?_)
      refine s_getR (pc := 18) (k := 15) c7 ft_X6_87 rfl (by decide +kernel) ?_
      refine S_gd (fun c8 => ?_)
      refine s_cVv (pc := 21) [] (tX3_start (hR g4 a0 15) g4) c8 cw_X6_340 rfl ⟨⟨Nat.le_of_ble_eq_true rfl, Nat.le_of_ble_eq_true rfl⟩, Nat.le_of_ble_eq_true rfl⟩ rfl (by decide +kernel) (fun _ g9 e10 => ?_)
      refine s_aload_n (pc := 24) (k0 := 0) (i := 0) rfl 0 rfl (by decide +kernel) ?_
      have c11 := kp e10 c7 (by decide)
      refine s_getR (pc := 25) (k := 15) c11 ft_X6_87 rfl (by decide +kernel) ?_
      refine s_aload_n (pc := 28) (k0 := 0) (i := 0) rfl 0 rfl (by decide +kernel) ?_
      refine s_getR (pc := 29) (k := 0) c11 ft_X6_15 rfl (by decide +kernel) ?_
      refine s_iload_n (pc := 32) (k0 := 1) (i := 1) rfl 1 rfl (by decide +kernel) ?_
      refine S_gd (fun c12 => ?_)
      refine S_gd (fun c13 => ?_)
      refine s_aald (pc := 33) c12 c13 (by decide +kernel) ?_
      refine s_aload_n (pc := 34) (k0 := 0) (i := 0) rfl 0 rfl (by decide +kernel) ?_
      refine s_getR (pc := 35) (k := 0) c11 ft_X6_15 rfl (by decide +kernel) ?_
      refine s_iload_n (pc := 38) (k0 := 1) (i := 1) rfl 1 rfl (by decide +kernel) ?_
      refine s_aald (pc := 39) c12 c13 (by decide +kernel) ?_
      refine s_aload_n (pc := 40) (k0 := 0) (i := 0) rfl 0 rfl (by decide +kernel) ?_
      refine s_getR (pc := 41) (k := 0) c11 ft_X6_15 rfl (by decide +kernel) ?_
      refine s_iload_n (pc := 44) (k0 := 2) (i := 2) rfl 2 rfl (by decide +kernel) ?_
      refine S_gd (fun c14 => ?_)
      refine s_aald (pc := 45) c12 c14 (by decide +kernel) ?_
      refine S_gd (fun c15 => ?_)
      refine s_cVv (pc := 46) [.ref (hR g9 (hR g9 a0 0) a1.toNatClampNeg), .ref (hR g9 (hR g9 a0 0) a1.toNatClampNeg), .ref (hR g9 (hR g9 a0 0) a2.toNatClampNeg)] (tX3_meetAtKnotsOf (hR g9 a0 15) (hR g9 (hR g9 a0 0) a1.toNatClampNeg) (hR g9 (hR g9 a0 0) a1.toNatClampNeg) (hR g9 (hR g9 a0 0) a2.toNatClampNeg) g9) c15 cw_X6_341 rfl ⟨⟨Nat.le_of_ble_eq_true rfl, Nat.le_of_ble_eq_true rfl⟩, Nat.le_of_ble_eq_true rfl⟩ rfl (by decide +kernel) (fun _ g16 e17 => ?_)
      refine s_aload_n (pc := 49) (k0 := 0) (i := 0) rfl 0 rfl (by decide +kernel) ?_
      have c18 := kp e17 c11 (by decide)
      refine s_getR (pc := 50) (k := 15) c18 ft_X6_87 rfl (by decide +kernel) ?_
      refine s_aload_n (pc := 53) (k0 := 0) (i := 0) rfl 0 rfl (by decide +kernel) ?_
      refine s_getR (pc := 54) (k := 0) c18 ft_X6_15 rfl (by decide +kernel) ?_
      refine s_iload_n (pc := 57) (k0 := 2) (i := 2) rfl 2 rfl (by decide +kernel) ?_
      refine S_gd (fun c19 => ?_)
      refine S_gd (fun c20 => ?_)
      refine s_aald (pc := 58) c19 c20 (by decide +kernel) ?_
      refine s_aload_n (pc := 59) (k0 := 0) (i := 0) rfl 0 rfl (by decide +kernel) ?_
      refine s_getR (pc := 60) (k := 0) c18 ft_X6_15 rfl (by decide +kernel) ?_
      refine s_iload_n (pc := 63) (k0 := 1) (i := 1) rfl 1 rfl (by decide +kernel) ?_
      refine S_gd (fun c21 => ?_)
      refine s_aald (pc := 64) c19 c21 (by decide +kernel) ?_
      refine s_aload_n (pc := 65) (k0 := 0) (i := 0) rfl 0 rfl (by decide +kernel) ?_
      refine s_getR (pc := 66) (k := 0) c18 ft_X6_15 rfl (by decide +kernel) ?_
      refine s_iload_n (pc := 69) (k0 := 2) (i := 2) rfl 2 rfl (by decide +kernel) ?_
      refine s_aald (pc := 70) c19 c20 (by decide +kernel) ?_
      refine S_gd (fun c22 => ?_)
      refine s_cVv (pc := 71) [.ref (hR g16 (hR g16 a0 0) a2.toNatClampNeg), .ref (hR g16 (hR g16 a0 0) a1.toNatClampNeg), .ref (hR g16 (hR g16 a0 0) a2.toNatClampNeg)] (tX3_meetAtKnotsOf (hR g16 a0 15) (hR g16 (hR g16 a0 0) a2.toNatClampNeg) (hR g16 (hR g16 a0 0) a1.toNatClampNeg) (hR g16 (hR g16 a0 0) a2.toNatClampNeg) g16) c22 cw_X6_341 rfl ⟨⟨Nat.le_of_ble_eq_true rfl, Nat.le_of_ble_eq_true rfl⟩, Nat.le_of_ble_eq_true rfl⟩ rfl (by decide +kernel) (fun _ g23 e24 => ?_)
      refine s_aload_n (pc := 74) (k0 := 0) (i := 0) rfl 0 rfl (by decide +kernel) ?_
      have c25 := kp e24 c18 (by decide)
      refine s_getR (pc := 75) (k := 15) c25 ft_X6_87 rfl (by decide +kernel) ?_
      refine S_gd (fun c26 => ?_)
      refine s_cVi (pc := 78) [] (tX3_verdict (hR g23 a0 15) g23) c26 cw_X6_345 rfl ⟨⟨Nat.le_of_ble_eq_true rfl, Nat.le_of_ble_eq_true rfl⟩, Nat.le_of_ble_eq_true rfl⟩ rfl (by decide +kernel) (fun w29 g27 e28 => ?_)
      exact s_iret (pc := 81) rfl (by decide +kernel)
theorem tX6_compare (a0 : Nat) (a1 : Int32) (a2 : Int32) (h : xH) : Ct yX6_compare kX6_compare emI [.ref a0, .int a1, .int a2] h (fX6_compare a0 a1 a2 h) := Ct_of (by decide +kernel) rfl rfl rfl (Nat.le_of_ble_eq_true rfl) rfl (pX6_compare_e a0 a1 a2 h)
def fX6_count_b20   (a0 : Nat) (a1 : Int32) (h : xH) : Option (Int32 × xH) :=
  if a1 = (6 : Int32) then
  (if kc h a0 = 6 then
  if kc h (hR h a0 0) = 12 then
  if ix (6 : Int32) (kl h (hR h a0 0)) then
  if kc h (hR h (hR h a0 0) (6 : Int32).toNatClampNeg) = 4 then
  some ((hI h (hR h (hR h a0 0) (6 : Int32).toNatClampNeg) 0), h)
  else none
  else none
  else none
  else none)
  else (
  if a1 = (7 : Int32) then
  (if kc h a0 = 6 then
  if kc h (hR h a0 0) = 12 then
  if ix (6 : Int32) (kl h (hR h a0 0)) then
  if kc h (hR h (hR h a0 0) (6 : Int32).toNatClampNeg) = 4 then
  bd (fX4_parts (hR h (hR h a0 0) (6 : Int32).toNatClampNeg) h) (fun w33 g31 =>
  some (w33, g31))
  else none
  else none
  else none
  else none)
  else (
  if a1 = (8 : Int32) then
  (if kc h a0 = 6 then
  if kc h (hR h a0 0) = 12 then
  if ix (6 : Int32) (kl h (hR h a0 0)) then
  if kc h (hR h (hR h a0 0) (6 : Int32).toNatClampNeg) = 4 then
  bd (fX4_fitsStore (hR h (hR h a0 0) (6 : Int32).toNatClampNeg) h) (fun w26 g24 =>
  if w26 = 0 then (
  some ((0 : Int32), g24))
  else (
  some ((1 : Int32), g24)))
  else none
  else none
  else none
  else none)
  else (
  if a1 = (9 : Int32) then
  (if kc h a0 = 6 then
  if kc h (hR h a0 2) = 0 then
  some ((hI h (hR h a0 2) 0), h)
  else none
  else none)
  else (
  if a1 = (10 : Int32) then
  (if kc h a0 = 6 then
  if kc h (hR h a0 5) = 5 then
  some ((hI h (hR h a0 5) 0), h)
  else none
  else none)
  else (
  if a1 = (11 : Int32) then
  (if kc h a0 = 6 then
  if kc h (hR h a0 7) = 8 then
  if ix (1 : Int32) (kl h (hR h a0 7)) then
  some ((hI h (hR h a0 7) (1 : Int32).toNatClampNeg), h)
  else none
  else none
  else none)
  else (
  if a1 = (12 : Int32) then
  (if kc h a0 = 6 then
  if kc h (hR h a0 7) = 8 then
  if ix (2 : Int32) (kl h (hR h a0 7)) then
  some ((hI h (hR h a0 7) (2 : Int32).toNatClampNeg), h)
  else none
  else none
  else none)
  else (
  if a1 = (13 : Int32) then
  (if kc h a0 = 6 then
  if kc h (hR h a0 7) = 8 then
  if ix (4 : Int32) (kl h (hR h a0 7)) then
  some ((hI h (hR h a0 7) (4 : Int32).toNatClampNeg), h)
  else none
  else none
  else none)
  else (
  if a1 = (14 : Int32) then
  (if kc h a0 = 6 then
  if kc h (hR h a0 7) = 8 then
  if ix (5 : Int32) (kl h (hR h a0 7)) then
  some ((hI h (hR h a0 7) (5 : Int32).toNatClampNeg), h)
  else none
  else none
  else none)
  else (
  if a1 = (15 : Int32) then
  (if kc h a0 = 6 then
  if kc h (hR h a0 7) = 8 then
  if ix (6 : Int32) (kl h (hR h a0 7)) then
  some ((hI h (hR h a0 7) (6 : Int32).toNatClampNeg), h)
  else none
  else none
  else none)
  else (
  (some ((-1 : Int32), h))))))))))))
def fX6_count   (a0 : Nat) (a1 : Int32) (h : xH) : Option (Int32 × xH) :=
  if a1 < 0 then (
  fX6_count_b20 a0 a1 h)
  else (
  if (6 : Int32) ≤ a1 then (
  fX6_count_b20 a0 a1 h)
  else (
  if kc h a0 = 6 then
  if kc h (hR h a0 0) = 12 then
  if ix a1 (kl h (hR h a0 0)) then
  if kc h (hR h (hR h a0 0) a1.toNatClampNeg) = 4 then
  some ((hI h (hR h (hR h a0 0) a1.toNatClampNeg) 0), h)
  else none
  else none
  else none
  else none))
theorem pX6_count_b20 {h0 : xH}    (a0 : Nat) (a1 : Int32) (h : xH) : S emI kX6_count h0 20 [(0, .ref a0), (1, .int a1)] [] h (fX6_count_b20  a0 a1 h) := by
  unfold fX6_count_b20
  refine s_iload_n (pc := 20) (k0 := 1) (i := 1) rfl 1 rfl (by decide +kernel) ?_
  refine S_ite (fun e => ?_) (fun ne6 => ?_)
  · refine s_tableIn (pc := 21) (dflt := 148) (lo := 6) (hi := 15) (offs := #[55, 66, 77, 96, 104, 112, 119, 126, 133, 140]) (len := 55) (off := 55) 76 (by decide +kernel) (by rw [e]; decide) (by rw [e]; decide) (by rw [e]; rfl) (by decide) ?_
    refine s_aload_n (pc := 76) (k0 := 0) (i := 0) rfl 0 rfl (by decide +kernel) ?_
    refine S_gd (fun c34 => ?_)
    refine s_getR (pc := 77) (k := 0) c34 ft_X6_15 rfl (by decide +kernel) ?_
    refine s_bipush (pc := 80) (n := 6) (v := (6 : Int32)) (by decide) (by decide +kernel) ?_
    refine S_gd (fun c35 => ?_)
    refine S_gd (fun c36 => ?_)
    refine s_aald (pc := 82) c35 c36 (by decide +kernel) ?_
    refine S_gd (fun c37 => ?_)
    refine s_getI (pc := 83) (k := 0) c37 ft_X6_134 rfl (by decide +kernel) ?_
    exact s_iret (pc := 86) rfl (by decide +kernel)
  · refine S_ite (fun e => ?_) (fun ne7 => ?_)
    · refine s_tableIn (pc := 21) (dflt := 148) (lo := 6) (hi := 15) (offs := #[55, 66, 77, 96, 104, 112, 119, 126, 133, 140]) (len := 55) (off := 66) 87 (by decide +kernel) (by rw [e]; decide) (by rw [e]; decide) (by rw [e]; rfl) (by decide) ?_
      refine s_aload_n (pc := 87) (k0 := 0) (i := 0) rfl 0 rfl (by decide +kernel) ?_
      refine S_gd (fun c27 => ?_)
      refine s_getR (pc := 88) (k := 0) c27 ft_X6_15 rfl (by decide +kernel) ?_
      refine s_bipush (pc := 91) (n := 6) (v := (6 : Int32)) (by decide) (by decide +kernel) ?_
      refine S_gd (fun c28 => ?_)
      refine S_gd (fun c29 => ?_)
      refine s_aald (pc := 93) c28 c29 (by decide +kernel) ?_
      refine S_gd (fun c30 => ?_)
      refine s_cVi (pc := 94) [] (tX4_parts (hR h (hR h a0 0) (6 : Int32).toNatClampNeg) h) c30 cw_X6_277 rfl ⟨⟨Nat.le_of_ble_eq_true rfl, Nat.le_of_ble_eq_true rfl⟩, Nat.le_of_ble_eq_true rfl⟩ rfl (by decide +kernel) (fun w33 g31 e32 => ?_)
      exact s_iret (pc := 97) rfl (by decide +kernel)
    · refine S_ite (fun e => ?_) (fun ne8 => ?_)
      · refine s_tableIn (pc := 21) (dflt := 148) (lo := 6) (hi := 15) (offs := #[55, 66, 77, 96, 104, 112, 119, 126, 133, 140]) (len := 55) (off := 77) 98 (by decide +kernel) (by rw [e]; decide) (by rw [e]; decide) (by rw [e]; rfl) (by decide) ?_
        refine s_aload_n (pc := 98) (k0 := 0) (i := 0) rfl 0 rfl (by decide +kernel) ?_
        refine S_gd (fun c20 => ?_)
        refine s_getR (pc := 99) (k := 0) c20 ft_X6_15 rfl (by decide +kernel) ?_
        refine s_bipush (pc := 102) (n := 6) (v := (6 : Int32)) (by decide) (by decide +kernel) ?_
        refine S_gd (fun c21 => ?_)
        refine S_gd (fun c22 => ?_)
        refine s_aald (pc := 104) c21 c22 (by decide +kernel) ?_
        refine S_gd (fun c23 => ?_)
        refine s_cVi (pc := 105) [] (tX4_fitsStore (hR h (hR h a0 0) (6 : Int32).toNatClampNeg) h) c23 cw_X6_137 rfl ⟨⟨Nat.le_of_ble_eq_true rfl, Nat.le_of_ble_eq_true rfl⟩, Nat.le_of_ble_eq_true rfl⟩ rfl (by decide +kernel) (fun w26 g24 e25 => ?_)
        refine s_if_eq (pc := 108) (off := 7) 115 (by decide +kernel) (by decide) (fun _ => ?_) (fun _ => ?_)
        · refine s_iconst (pc := 115) (n := 0) (v := (0 : Int32)) (by decide) (by decide +kernel) ?_
          exact s_iret (pc := 116) rfl (by decide +kernel)
        · refine s_iconst (pc := 111) (n := 1) (v := (1 : Int32)) (by decide) (by decide +kernel) ?_
          refine s_goto (pc := 112) (off := 4) 116 (by decide +kernel) (by decide) ?_
          exact s_iret (pc := 116) rfl (by decide +kernel)
      · refine S_ite (fun e => ?_) (fun ne9 => ?_)
        · refine s_tableIn (pc := 21) (dflt := 148) (lo := 6) (hi := 15) (offs := #[55, 66, 77, 96, 104, 112, 119, 126, 133, 140]) (len := 55) (off := 96) 117 (by decide +kernel) (by rw [e]; decide) (by rw [e]; decide) (by rw [e]; rfl) (by decide) ?_
          refine s_aload_n (pc := 117) (k0 := 0) (i := 0) rfl 0 rfl (by decide +kernel) ?_
          refine S_gd (fun c18 => ?_)
          refine s_getR (pc := 118) (k := 2) c18 ft_X6_27 rfl (by decide +kernel) ?_
          refine S_gd (fun c19 => ?_)
          refine s_getI (pc := 121) (k := 0) c19 ft_X6_191 rfl (by decide +kernel) ?_
          exact s_iret (pc := 124) rfl (by decide +kernel)
        · refine S_ite (fun e => ?_) (fun ne10 => ?_)
          · refine s_tableIn (pc := 21) (dflt := 148) (lo := 6) (hi := 15) (offs := #[55, 66, 77, 96, 104, 112, 119, 126, 133, 140]) (len := 55) (off := 104) 125 (by decide +kernel) (by rw [e]; decide) (by rw [e]; decide) (by rw [e]; rfl) (by decide) ?_
            refine s_aload_n (pc := 125) (k0 := 0) (i := 0) rfl 0 rfl (by decide +kernel) ?_
            refine S_gd (fun c16 => ?_)
            refine s_getR (pc := 126) (k := 5) c16 ft_X6_41 rfl (by decide +kernel) ?_
            refine S_gd (fun c17 => ?_)
            refine s_getI (pc := 129) (k := 0) c17 ft_X6_91 rfl (by decide +kernel) ?_
            exact s_iret (pc := 132) rfl (by decide +kernel)
          · refine S_ite (fun e => ?_) (fun ne11 => ?_)
            · refine s_tableIn (pc := 21) (dflt := 148) (lo := 6) (hi := 15) (offs := #[55, 66, 77, 96, 104, 112, 119, 126, 133, 140]) (len := 55) (off := 112) 133 (by decide +kernel) (by rw [e]; decide) (by rw [e]; decide) (by rw [e]; rfl) (by decide) ?_
              refine s_aload_n (pc := 133) (k0 := 0) (i := 0) rfl 0 rfl (by decide +kernel) ?_
              refine S_gd (fun c13 => ?_)
              refine s_getR (pc := 134) (k := 7) c13 ft_X6_49 rfl (by decide +kernel) ?_
              refine s_iconst (pc := 137) (n := 1) (v := (1 : Int32)) (by decide) (by decide +kernel) ?_
              refine S_gd (fun c14 => ?_)
              refine S_gd (fun c15 => ?_)
              refine s_iald (pc := 138) c14 c15 (by decide +kernel) ?_
              exact s_iret (pc := 139) rfl (by decide +kernel)
            · refine S_ite (fun e => ?_) (fun ne12 => ?_)
              · refine s_tableIn (pc := 21) (dflt := 148) (lo := 6) (hi := 15) (offs := #[55, 66, 77, 96, 104, 112, 119, 126, 133, 140]) (len := 55) (off := 119) 140 (by decide +kernel) (by rw [e]; decide) (by rw [e]; decide) (by rw [e]; rfl) (by decide) ?_
                refine s_aload_n (pc := 140) (k0 := 0) (i := 0) rfl 0 rfl (by decide +kernel) ?_
                refine S_gd (fun c10 => ?_)
                refine s_getR (pc := 141) (k := 7) c10 ft_X6_49 rfl (by decide +kernel) ?_
                refine s_iconst (pc := 144) (n := 2) (v := (2 : Int32)) (by decide) (by decide +kernel) ?_
                refine S_gd (fun c11 => ?_)
                refine S_gd (fun c12 => ?_)
                refine s_iald (pc := 145) c11 c12 (by decide +kernel) ?_
                exact s_iret (pc := 146) rfl (by decide +kernel)
              · refine S_ite (fun e => ?_) (fun ne13 => ?_)
                · refine s_tableIn (pc := 21) (dflt := 148) (lo := 6) (hi := 15) (offs := #[55, 66, 77, 96, 104, 112, 119, 126, 133, 140]) (len := 55) (off := 126) 147 (by decide +kernel) (by rw [e]; decide) (by rw [e]; decide) (by rw [e]; rfl) (by decide) ?_
                  refine s_aload_n (pc := 147) (k0 := 0) (i := 0) rfl 0 rfl (by decide +kernel) ?_
                  refine S_gd (fun c7 => ?_)
                  refine s_getR (pc := 148) (k := 7) c7 ft_X6_49 rfl (by decide +kernel) ?_
                  refine s_iconst (pc := 151) (n := 4) (v := (4 : Int32)) (by decide) (by decide +kernel) ?_
                  refine S_gd (fun c8 => ?_)
                  refine S_gd (fun c9 => ?_)
                  refine s_iald (pc := 152) c8 c9 (by decide +kernel) ?_
                  exact s_iret (pc := 153) rfl (by decide +kernel)
                · refine S_ite (fun e => ?_) (fun ne14 => ?_)
                  · refine s_tableIn (pc := 21) (dflt := 148) (lo := 6) (hi := 15) (offs := #[55, 66, 77, 96, 104, 112, 119, 126, 133, 140]) (len := 55) (off := 133) 154 (by decide +kernel) (by rw [e]; decide) (by rw [e]; decide) (by rw [e]; rfl) (by decide) ?_
                    refine s_aload_n (pc := 154) (k0 := 0) (i := 0) rfl 0 rfl (by decide +kernel) ?_
                    refine S_gd (fun c4 => ?_)
                    refine s_getR (pc := 155) (k := 7) c4 ft_X6_49 rfl (by decide +kernel) ?_
                    refine s_iconst (pc := 158) (n := 5) (v := (5 : Int32)) (by decide) (by decide +kernel) ?_
                    refine S_gd (fun c5 => ?_)
                    refine S_gd (fun c6 => ?_)
                    refine s_iald (pc := 159) c5 c6 (by decide +kernel) ?_
                    exact s_iret (pc := 160) rfl (by decide +kernel)
                  · refine S_ite (fun e => ?_) (fun ne15 => ?_)
                    · refine s_tableIn (pc := 21) (dflt := 148) (lo := 6) (hi := 15) (offs := #[55, 66, 77, 96, 104, 112, 119, 126, 133, 140]) (len := 55) (off := 140) 161 (by decide +kernel) (by rw [e]; decide) (by rw [e]; decide) (by rw [e]; rfl) (by decide) ?_
                      refine s_aload_n (pc := 161) (k0 := 0) (i := 0) rfl 0 rfl (by decide +kernel) ?_
                      refine S_gd (fun c1 => ?_)
                      refine s_getR (pc := 162) (k := 7) c1 ft_X6_49 rfl (by decide +kernel) ?_
                      refine s_bipush (pc := 165) (n := 6) (v := (6 : Int32)) (by decide) (by decide +kernel) ?_
                      refine S_gd (fun c2 => ?_)
                      refine S_gd (fun c3 => ?_)
                      refine s_iald (pc := 167) c2 c3 (by decide +kernel) ?_
                      exact s_iret (pc := 168) rfl (by decide +kernel)
                    · have tn6 := tb_ne ne6 (n := 6) (by decide)
                      have tn7 := tb_ne ne7 (n := 7) (by decide)
                      have tn8 := tb_ne ne8 (n := 8) (by decide)
                      have tn9 := tb_ne ne9 (n := 9) (by decide)
                      have tn10 := tb_ne ne10 (n := 10) (by decide)
                      have tn11 := tb_ne ne11 (n := 11) (by decide)
                      have tn12 := tb_ne ne12 (n := 12) (by decide)
                      have tn13 := tb_ne ne13 (n := 13) (by decide)
                      have tn14 := tb_ne ne14 (n := 14) (by decide)
                      have tn15 := tb_ne ne15 (n := 15) (by decide)
                      refine s_tableOut (pc := 21) (dflt := 148) (lo := 6) (hi := 15) (offs := #[55, 66, 77, 96, 104, 112, 119, 126, 133, 140]) (len := 55) 169 (by decide +kernel) (by omega) (by decide) ?_
                      refine s_iconst (pc := 169) (n := -1) (v := (-1 : Int32)) (by decide) (by decide +kernel) ?_
                      exact s_iret (pc := 170) rfl (by decide +kernel)
theorem pX6_count_e    (a0 : Nat) (a1 : Int32) (h : xH) : S emI kX6_count h 0 [(0, .ref a0), (1, .int a1)] [] h (fX6_count  a0 a1 h) := by
  unfold fX6_count
  refine s_iload_n (pc := 0) (k0 := 1) (i := 1) rfl 1 rfl (by decide +kernel) ?_
  refine s_if_lt (pc := 1) (off := 19) 20 (by decide +kernel) (by decide) (fun _ => ?_) (fun _ => ?_)
  · exact pX6_count_b20 a0 a1 h
  · refine s_iload_n (pc := 4) (k0 := 1) (i := 1) rfl 1 rfl (by decide +kernel) ?_
    refine s_bipush (pc := 5) (n := 6) (v := (6 : Int32)) (by decide) (by decide +kernel) ?_
    refine s_icmp_ge (pc := 7) (off := 13) 20 (by decide +kernel) (by decide) (fun _ => ?_) (fun _ => ?_)
    · exact pX6_count_b20 a0 a1 h
    · refine s_aload_n (pc := 10) (k0 := 0) (i := 0) rfl 0 rfl (by decide +kernel) ?_
      refine S_gd (fun c1 => ?_)
      refine s_getR (pc := 11) (k := 0) c1 ft_X6_15 rfl (by decide +kernel) ?_
      refine s_iload_n (pc := 14) (k0 := 1) (i := 1) rfl 1 rfl (by decide +kernel) ?_
      refine S_gd (fun c2 => ?_)
      refine S_gd (fun c3 => ?_)
      refine s_aald (pc := 15) c2 c3 (by decide +kernel) ?_
      refine S_gd (fun c4 => ?_)
      refine s_getI (pc := 16) (k := 0) c4 ft_X6_134 rfl (by decide +kernel) ?_
      exact s_iret (pc := 19) rfl (by decide +kernel)
theorem tX6_count (a0 : Nat) (a1 : Int32) (h : xH) : Ct yX6_count kX6_count emI [.ref a0, .int a1] h (fX6_count a0 a1 h) := Ct_of (by decide +kernel) rfl rfl rfl (Nat.le_of_ble_eq_true rfl) rfl (pX6_count_e a0 a1 h)
def fX6_status   (a0 : Nat) (h : xH) : Option (Int32 × xH) :=
  if kc h a0 = 6 then
  some ((hI h a0 6), h)
  else none
theorem pX6_status_e    (a0 : Nat) (h : xH) : S emI kX6_status h 0 [(0, .ref a0)] [] h (fX6_status  a0 h) := by
  unfold fX6_status
  refine s_aload_n (pc := 0) (k0 := 0) (i := 0) rfl 0 rfl (by decide +kernel) ?_
  refine S_gd (fun c1 => ?_)
  refine s_getI (pc := 1) (k := 6) c1 ft_X6_45 rfl (by decide +kernel) ?_
  exact s_iret (pc := 4) rfl (by decide +kernel)
theorem tX6_status (a0 : Nat) (h : xH) : Ct yX6_status kX6_status emI [.ref a0] h (fX6_status a0 h) := Ct_of (by decide +kernel) rfl rfl rfl (Nat.le_of_ble_eq_true rfl) rfl (pX6_status_e a0 h)
