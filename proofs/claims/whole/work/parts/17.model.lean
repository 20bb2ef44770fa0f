def fX7_common_b28 (r28 : Int64 → Int64 → xH → Option (Int64 × xH))  (a4 : Int64) (a6 : Int64) (h : xH) : Option (Int64 × xH) :=
  if (lg_cmp a6 (0 : Int64)) = 0 then (
  some (a4, h))
  else (
  if ¬ a6 = 0 then
  lt (a4 - a4 / a6 * a6) (fun v1 =>
  r28 a6 v1 h)
  else none)
def fX7_common_l28  : Nat → Int64 → Int64 → xH → Option (Int64 × xH)
  | 0 => fun _ _ _ => none
  | k + 1 => fX7_common_b28 (fX7_common_l28  k)
def fX7_common_b26  (s0 : Int64) (a4 : Int64) (h : xH) : Option (Int64 × xH) :=
  fX7_common_l28 FU a4 s0 h
def fX7_common_b12  (s0 : Int64) (a2 : Int64) (h : xH) : Option (Int64 × xH) :=
  if 0 ≤ (lg_cmp a2 (0 : Int64)) then (
  fX7_common_b26 a2 s0 h)
  else (
  fX7_common_b26 (-a2) s0 h)
def fX7_common   (a0 : Int64) (a2 : Int64) (h : xH) : Option (Int64 × xH) :=
  if 0 ≤ (lg_cmp a0 (0 : Int64)) then (
  fX7_common_b12 a0 a2 h)
  else (
  fX7_common_b12 (-a0) a2 h)
theorem pX7_common_b28 {h0 : xH} {r28 : Int64 → Int64 → xH → Option (Int64 × xH)} (hr28 : ∀  (a4 : Int64) (a6 : Int64) (g : xH), S emJ kX7_common h0 28 [(4, .long a4), (6, .long a6)] [] g (r28  a4 a6 g))  (a4 : Int64) (a6 : Int64) (h : xH) : S emJ kX7_common h0 28 [(4, .long a4), (6, .long a6)] [] h (fX7_common_b28 r28 a4 a6 h) := by
  unfold fX7_common_b28
  refine s_lload (pc := 28) (i := 6) 1 rfl (by decide +kernel) ?_
  refine s_lconst (pc := 30) (n := 0) (v := (0 : Int64)) (by decide) (by decide +kernel) ?_
  refine s_lcmp (pc := 31) (by decide +kernel) ?_
  refine s_if_eq (pc := 32) (off := 21) 53 (by decide +kernel) (by decide) (fun _ => ?_) (fun _ => ?_)
  · refine s_lload (pc := 53) (i := 4) 0 rfl (by decide +kernel) ?_
    exact s_lret (pc := 55) rfl (by decide +kernel)
  · refine s_lload (pc := 35) (i := 4) 0 rfl (by decide +kernel) ?_
    refine s_lload (pc := 37) (i := 6) 1 rfl (by decide +kernel) ?_
    refine s_lrem (pc := 39) (by decide +kernel) ?_
    refine s_nmJ (fun v1 => ?_)
    refine s_lstore (pc := 40) (L' := [(8, .long v1), (4, .long a4), (6, .long a6)]) (i := 8) (by decide) rfl (by decide +kernel) ?_
    refine s_lload (pc := 42) (i := 6) 2 rfl (by decide +kernel) ?_
    refine s_lstore (pc := 44) (L' := [(4, .long a6), (8, .long v1), (6, .long a6)]) (i := 4) (by decide) rfl (by decide +kernel) ?_
    refine s_lload (pc := 46) (i := 8) 1 rfl (by decide +kernel) ?_
    refine s_lstore (pc := 48) (L' := [(6, .long v1), (4, .long a6), (8, .long v1)]) (i := 6) (by decide) rfl (by decide +kernel) ?_
    refine s_goto (pc := 50) (off := -22) 28 (by decide +kernel) (by decide) ?_
    refine S_sub [1, 0] rfl ?_
    exact hr28 a6 v1 h
theorem pX7_common_l28 {h0 : xH}   : ∀ (k : Nat)  (a4 : Int64) (a6 : Int64) (h : xH), S emJ kX7_common h0 28 [(4, .long a4), (6, .long a6)] [] h (fX7_common_l28  k  a4 a6 h) := by
  intro k
  induction k with
  | zero => intros; exact S_none
  | succ k ih => intro  a4 a6 h; exact pX7_common_b28 ih  a4 a6 h
theorem pX7_common_b26 {h0 : xH}   (s0 : Int64) (a4 : Int64) (h : xH) : S emJ kX7_common h0 26 [(4, .long a4)] [.long s0] h (fX7_common_b26 s0 a4 h) := by
  unfold fX7_common_b26
  refine s_lstore (pc := 26) (L' := [(6, .long s0), (4, .long a4)]) (i := 6) (by decide) rfl (by decide +kernel) ?_
  refine S_sub [1, 0] rfl ?_
  exact pX7_common_l28 FU a4 s0 h
theorem pX7_common_b12 {h0 : xH}   (s0 : Int64) (a2 : Int64) (h : xH) : S emJ kX7_common h0 12 [(2, .long a2)] [.long s0] h (fX7_common_b12 s0 a2 h) := by
  unfold fX7_common_b12
  refine s_lstore (pc := 12) (L' := [(4, .long s0), (2, .long a2)]) (i := 4) (by decide) rfl (by decide +kernel) ?_
  refine s_lload_n (pc := 14) (k0 := 2) (i := 2) rfl 1 rfl (by decide +kernel) ?_
  refine s_lconst (pc := 15) (n := 0) (v := (0 : Int64)) (by decide) (by decide +kernel) ?_
  refine s_lcmp (pc := 16) (by decide +kernel) ?_
  refine s_if_ge (pc := 17) (off := 8) 25 (by decide +kernel) (by decide) (fun _ => ?_) (fun _ => ?_)
  · refine s_lload_n (pc := 25) (k0 := 2) (i := 2) rfl 1 rfl (by decide +kernel) ?_
    refine S_sub [0] rfl ?_
    exact pX7_common_b26 a2 s0 h
  · refine s_lload_n (pc := 20) (k0 := 2) (i := 2) rfl 1 rfl (by decide +kernel) ?_
    refine s_lneg (pc := 21) (by decide +kernel) ?_
    refine s_goto (pc := 22) (off := 4) 26 (by decide +kernel) (by decide) ?_
    refine S_sub [0] rfl ?_
    exact pX7_common_b26 (-a2) s0 h
theorem pX7_common_e    (a0 : Int64) (a2 : Int64) (h : xH) : S emJ kX7_common h 0 [(0, .long a0), (2, .long a2)] [] h (fX7_common  a0 a2 h) := by
  unfold fX7_common
  refine s_lload_n (pc := 0) (k0 := 0) (i := 0) rfl 0 rfl (by decide +kernel) ?_
  refine s_lconst (pc := 1) (n := 0) (v := (0 : Int64)) (by decide) (by decide +kernel) ?_
  refine s_lcmp (pc := 2) (by decide +kernel) ?_
  refine s_if_ge (pc := 3) (off := 8) 11 (by decide +kernel) (by decide) (fun _ => ?_) (fun _ => ?_)
  · refine s_lload_n (pc := 11) (k0 := 0) (i := 0) rfl 0 rfl (by decide +kernel) ?_
    refine S_sub [1] rfl ?_
    exact pX7_common_b12 a0 a2 h
  · refine s_lload_n (pc := 6) (k0 := 0) (i := 0) rfl 0 rfl (by decide +kernel) ?_
    refine s_lneg (pc := 7) (by decide +kernel) ?_
    refine s_goto (pc := 8) (off := 4) 12 (by decide +kernel) (by decide) ?_
    refine S_sub [1] rfl ?_
    exact pX7_common_b12 (-a0) a2 h
theorem tX7_common (a0 : Int64) (a2 : Int64) (h : xH) : Ct yX7_common kX7_common emJ [.long a0, .long a2] h (fX7_common a0 a2 h) := Ct_of (by decide +kernel) rfl rfl rfl (Nat.le_of_ble_eq_true rfl) rfl (pX7_common_e a0 a2 h)
def fX7_meet_b229  (s0 : Int64) (s1 : Int64) (s2 : Int64) (s3 : Int64) (s4 : Int64) (s5 : Nat)  (h : xH) : Option (Unit × xH) :=
  if kc h s5 = 7 then
  bd (fX7_addNew s5 s4 s3 s2 s1 s0 h) (fun _ g2 =>
  some ((), g2))
  else none
def fX7_meet_b205  (s0 : Int64) (s1 : Int64) (s2 : Int64) (s3 : Int64) (s4 : Int64) (s5 : Nat) (a0 : Nat) (a1 : Int32) (a2 : Int32) (a7 : Int64) (a9 : Int64) (a11 : Int32) (a19 : Int64) (a21 : Int64) (h : xH) : Option (Unit × xH) :=
  if kc h s5 = 7 then
  bd (fX7_addNew s5 s4 s3 s2 s1 s0 h) (fun _ g2 =>
  if 0 ≤ a11 then (
  fX7_meet_b229 a1.toInt64 a9 a7 a21 a19 a0 g2)
  else (
  fX7_meet_b229 a2.toInt64 a9 a7 a21 a19 a0 g2))
  else none
def fX7_meet_b168  (s0 : Int64) (s1 : Int64) (a0 : Nat) (a1 : Int32) (a2 : Int32) (a3 : Int64) (a5 : Int64) (a7 : Int64) (a9 : Int64) (a11 : Int32) (a13 : Int64) (a15 : Int64) (h : xH) : Option (Unit × xH) :=
  lt (s1 * s0) (fun v1 =>
  if ¬ v1 = 0 then
  lt (a13 / v1) (fun v2 =>
  if ¬ v1 = 0 then
  lt (a15 / v1) (fun v3 =>
  if 0 ≤ a11 then (
  fX7_meet_b205 a2.toInt64 v3 v2 a5 a3 a0 a0 a1 a2 a7 a9 a11 v2 v3 h)
  else (
  fX7_meet_b205 a1.toInt64 v3 v2 a5 a3 a0 a0 a1 a2 a7 a9 a11 v2 v3 h))
  else none)
  else none)
def fX7_meet_b89   (a0 : Nat) (a1 : Int32) (a2 : Int32) (a3 : Int64) (a5 : Int64) (a7 : Int64) (a9 : Int64) (a11 : Int32) (h : xH) : Option (Unit × xH) :=
  if kc h a0 = 7 then
  if kc h (hR h a0 22) = 9 then
  if ix a2 (kl h (hR h a0 22)) then
  if kc h (hR h a0 24) = 9 then
  if ix a1 (kl h (hR h a0 24)) then
  if ix a1 (kl h (hR h a0 22)) then
  if ix a2 (kl h (hR h a0 24)) then
  lt (((hJ h (hR h a0 22) a2.toNatClampNeg) * (hJ h (hR h a0 24) a1.toNatClampNeg)) - ((hJ h (hR h a0 22) a1.toNatClampNeg) * (hJ h (hR h a0 24) a2.toNatClampNeg))) (fun v8 =>
  if kc h (hR h a0 23) = 9 then
  if ix a1 (kl h (hR h a0 23)) then
  if ix a2 (kl h (hR h a0 23)) then
  lt (((hJ h (hR h a0 23) a1.toNatClampNeg) * (hJ h (hR h a0 24) a2.toNatClampNeg)) - ((hJ h (hR h a0 23) a2.toNatClampNeg) * (hJ h (hR h a0 24) a1.toNatClampNeg))) (fun v12 =>
  bd (fX7_common v8 v12 h) (fun w15 g13 =>
  if 0 ≤ (lg_cmp v12 (0 : Int64)) then (
  fX7_meet_b168 (1 : Int64) w15 a0 a1 a2 a3 a5 a7 a9 a11 v8 v12 g13)
  else (
  fX7_meet_b168 (-1 : Int64) w15 a0 a1 a2 a3 a5 a7 a9 a11 v8 v12 g13)))
  else none
  else none
  else none)
  else none
  else none
  else none
  else none
  else none
  else none
  else none
def fX7_meet_b63   (a0 : Nat) (a1 : Int32) (a2 : Int32) (a3 : Int64) (a5 : Int64) (a7 : Int64) (a9 : Int64) (a11 : Int32) (a12 : Int32) (h : xH) : Option (Unit × xH) :=
  if 0 < a11 then (
  fX7_meet_b89 a0 a1 a2 a3 a5 a7 a9 a11 h)
  else (
  if 0 < a12 then (
  fX7_meet_b89 a0 a1 a2 a3 a5 a7 a9 a11 h)
  else (
  if kc h a0 = 7 then
  bd (fX7_addNew a0 a3 a5 a7 a9 a1.toInt64 h) (fun _ g2 =>
  some ((), g2))
  else none))
def fX7_meet   (a0 : Nat) (a1 : Int32) (a2 : Int32) (a3 : Int64) (a5 : Int64) (a7 : Int64) (a9 : Int64) (h : xH) : Option (Unit × xH) :=
  bd (fX7_lie a3 a5 a7 a9 h) (fun w3 g1 =>
  if w3 < 0 then (
  if kc g1 a0 = 7 then
  bd (fX7_lieAt a0 a1 a2 a3 a5 g1) (fun w7 g5 =>
  bd (fX7_lieAt a0 a1 a2 a7 a9 g5) (fun w11 g9 =>
  if w7 < 0 then (
  fX7_meet_b63 a0 a1 a2 a3 a5 a7 a9 w7 w11 g9)
  else (
  if w11 < 0 then (
  fX7_meet_b63 a0 a1 a2 a3 a5 a7 a9 w7 w11 g9)
  else (
  bd (fX7_addNew a0 a3 a5 a7 a9 a2.toInt64 g9) (fun _ g13 =>
  some ((), g13))))))
  else none)
  else (
  some ((), g1)))
theorem pX7_meet_b229 {h0 : xH}   (s0 : Int64) (s1 : Int64) (s2 : Int64) (s3 : Int64) (s4 : Int64) (s5 : Nat)  (h : xH) : S emV kX7_meet h0 229 [] [.long s0, .long s1, .long s2, .long s3, .long s4, .ref s5] h (fX7_meet_b229 s0 s1 s2 s3 s4 s5 h) := by
  unfold fX7_meet_b229
  refine S_gd (fun c1 => ?_)
  refine s_cVv (pc := 229) [.long s4, .long s3, .long s2, .long s1, .long s0] (tX7_addNew s5 s4 s3 s2 s1 s0 h) c1 cw_X7_200 rfl ⟨⟨Nat.le_of_ble_eq_true rfl, Nat.le_of_ble_eq_true rfl⟩, Nat.le_of_ble_eq_true rfl⟩ rfl (by decide +kernel) (fun _ g2 e3 => ?_)
  exact s_vret (pc := 232) rfl (by decide +kernel)
theorem pX7_meet_b205 {h0 : xH}   (s0 : Int64) (s1 : Int64) (s2 : Int64) (s3 : Int64) (s4 : Int64) (s5 : Nat) (a0 : Nat) (a1 : Int32) (a2 : Int32) (a7 : Int64) (a9 : Int64) (a11 : Int32) (a19 : Int64) (a21 : Int64) (h : xH) : S emV kX7_meet h0 205 [(0, .ref a0), (1, .int a1), (2, .int a2), (7, .long a7), (9, .long a9), (11, .int a11), (19, .long a19), (21, .long a21)] [.long s0, .long s1, .long s2, .long s3, .long s4, .ref s5] h (fX7_meet_b205 s0 s1 s2 s3 s4 s5 a0 a1 a2 a7 a9 a11 a19 a21 h) := by
  unfold fX7_meet_b205
  refine S_gd (fun c1 => ?_)
  refine s_cVv (pc := 205) [.long s4, .long s3, .long s2, .long s1, .long s0] (tX7_addNew s5 s4 s3 s2 s1 s0 h) c1 cw_X7_200 rfl ⟨⟨Nat.le_of_ble_eq_true rfl, Nat.le_of_ble_eq_true rfl⟩, Nat.le_of_ble_eq_true rfl⟩ rfl (by decide +kernel) (fun _ g2 e3 => ?_)
  refine s_aload_n (pc := 208) (k0 := 0) (i := 0) rfl 0 rfl (by decide +kernel) ?_
  refine s_lload (pc := 209) (i := 19) 6 rfl (by decide +kernel) ?_
  refine s_lload (pc := 211) (i := 21) 7 rfl (by decide +kernel) ?_
  refine s_lload (pc := 213) (i := 7) 3 rfl (by decide +kernel) ?_
  refine s_lload (pc := 215) (i := 9) 4 rfl (by decide +kernel) ?_
  refine s_iload (pc := 217) (i := 11) 5 rfl (by decide +kernel) ?_
  refine s_if_ge (pc := 219) (off := 8) 227 (by decide +kernel) (by decide) (fun _ => ?_) (fun _ => ?_)
  · refine s_iload_n (pc := 227) (k0 := 1) (i := 1) rfl 1 rfl (by decide +kernel) ?_
    refine s_i2l (pc := 228) (by decide +kernel) ?_
    refine S_sub [] rfl ?_
    exact pX7_meet_b229 a1.toInt64 a9 a7 a21 a19 a0 g2
  · refine s_iload_n (pc := 222) (k0 := 2) (i := 2) rfl 2 rfl (by decide +kernel) ?_
    refine s_i2l (pc := 223) (by decide +kernel) ?_
    refine s_goto (pc := 224) (off := 5) 229 (by decide +kernel) (by decide) ?_
    refine S_sub [] rfl ?_
    exact pX7_meet_b229 a2.toInt64 a9 a7 a21 a19 a0 g2
theorem pX7_meet_b168 {h0 : xH}   (s0 : Int64) (s1 : Int64) (a0 : Nat) (a1 : Int32) (a2 : Int32) (a3 : Int64) (a5 : Int64) (a7 : Int64) (a9 : Int64) (a11 : Int32) (a13 : Int64) (a15 : Int64) (h : xH) : S emV kX7_meet h0 168 [(0, .ref a0), (1, .int a1), (2, .int a2), (3, .long a3), (5, .long a5), (7, .long a7), (9, .long a9), (11, .int a11), (13, .long a13), (15, .long a15)] [.long s0, .long s1] h (fX7_meet_b168 s0 s1 a0 a1 a2 a3 a5 a7 a9 a11 a13 a15 h) := by
  unfold fX7_meet_b168
  refine s_lmul (pc := 168) (by decide +kernel) ?_
  refine s_nmJ (fun v1 => ?_)
  refine s_lstore (pc := 169) (L' := [(17, .long v1), (0, .ref a0), (1, .int a1), (2, .int a2), (3, .long a3), (5, .long a5), (7, .long a7), (9, .long a9), (11, .int a11), (13, .long a13), (15, .long a15)]) (i := 17) (by decide) rfl (by decide +kernel) ?_
  refine s_lload (pc := 171) (i := 13) 9 rfl (by decide +kernel) ?_
  refine s_lload (pc := 173) (i := 17) 0 rfl (by decide +kernel) ?_
  refine s_ldiv (pc := 175) (by decide +kernel) ?_
  refine s_nmJ (fun v2 => ?_)
  refine s_lstore (pc := 176) (L' := [(19, .long v2), (17, .long v1), (0, .ref a0), (1, .int a1), (2, .int a2), (3, .long a3), (5, .long a5), (7, .long a7), (9, .long a9), (11, .int a11), (13, .long a13), (15, .long a15)]) (i := 19) (by decide) rfl (by decide +kernel) ?_
  refine s_lload (pc := 178) (i := 15) 11 rfl (by decide +kernel) ?_
  refine s_lload (pc := 180) (i := 17) 1 rfl (by decide +kernel) ?_
  refine s_ldiv (pc := 182) (by decide +kernel) ?_
  refine s_nmJ (fun v3 => ?_)
  refine s_lstore (pc := 183) (L' := [(21, .long v3), (19, .long v2), (17, .long v1), (0, .ref a0), (1, .int a1), (2, .int a2), (3, .long a3), (5, .long a5), (7, .long a7), (9, .long a9), (11, .int a11), (13, .long a13), (15, .long a15)]) (i := 21) (by decide) rfl (by decide +kernel) ?_
  refine s_aload_n (pc := 185) (k0 := 0) (i := 0) rfl 3 rfl (by decide +kernel) ?_
  refine s_lload_n (pc := 186) (k0 := 3) (i := 3) rfl 6 rfl (by decide +kernel) ?_
  refine s_lload (pc := 187) (i := 5) 7 rfl (by decide +kernel) ?_
  refine s_lload (pc := 189) (i := 19) 1 rfl (by decide +kernel) ?_
  refine s_lload (pc := 191) (i := 21) 0 rfl (by decide +kernel) ?_
  refine s_iload (pc := 193) (i := 11) 10 rfl (by decide +kernel) ?_
  refine s_if_ge (pc := 195) (off := 8) 203 (by decide +kernel) (by decide) (fun _ => ?_) (fun _ => ?_)
  · refine s_iload_n (pc := 203) (k0 := 2) (i := 2) rfl 5 rfl (by decide +kernel) ?_
    refine s_i2l (pc := 204) (by decide +kernel) ?_
    refine S_sub [3, 4, 5, 8, 9, 10, 1, 0] rfl ?_
    exact pX7_meet_b205 a2.toInt64 v3 v2 a5 a3 a0 a0 a1 a2 a7 a9 a11 v2 v3 h
  · refine s_iload_n (pc := 198) (k0 := 1) (i := 1) rfl 4 rfl (by decide +kernel) ?_
    refine s_i2l (pc := 199) (by decide +kernel) ?_
    refine s_goto (pc := 200) (off := 5) 205 (by decide +kernel) (by decide) ?_
    refine S_sub [3, 4, 5, 8, 9, 10, 1, 0] rfl ?_
    exact pX7_meet_b205 a1.toInt64 v3 v2 a5 a3 a0 a0 a1 a2 a7 a9 a11 v2 v3 h
theorem pX7_meet_b89 {h0 : xH}    (a0 : Nat) (a1 : Int32) (a2 : Int32) (a3 : Int64) (a5 : Int64) (a7 : Int64) (a9 : Int64) (a11 : Int32) (h : xH) : S emV kX7_meet h0 89 [(0, .ref a0), (1, .int a1), (2, .int a2), (3, .long a3), (5, .long a5), (7, .long a7), (9, .long a9), (11, .int a11)] [] h (fX7_meet_b89  a0 a1 a2 a3 a5 a7 a9 a11 h) := by
  unfold fX7_meet_b89
  refine s_aload_n (pc := 89) (k0 := 0) (i := 0) rfl 0 rfl (by decide +kernel) ?_
  refine S_gd (fun c1 => ?_)
  refine s_getR (pc := 90) (k := 22) c1 ft_X7_63 rfl (by decide +kernel) ?_
  refine s_iload_n (pc := 93) (k0 := 2) (i := 2) rfl 2 rfl (by decide +kernel) ?_
  refine S_gd (fun c2 => ?_)
  refine S_gd (fun c3 => ?_)
  refine s_lald (pc := 94) c2 c3 (by decide +kernel) ?_
  refine s_aload_n (pc := 95) (k0 := 0) (i := 0) rfl 0 rfl (by decide +kernel) ?_
  refine s_getR (pc := 96) (k := 24) c1 ft_X7_69 rfl (by decide +kernel) ?_
  refine s_iload_n (pc := 99) (k0 := 1) (i := 1) rfl 1 rfl (by decide +kernel) ?_
  refine S_gd (fun c4 => ?_)
  refine S_gd (fun c5 => ?_)
  refine s_lald (pc := 100) c4 c5 (by decide +kernel) ?_
  refine s_lmul (pc := 101) (by decide +kernel) ?_
  refine s_aload_n (pc := 102) (k0 := 0) (i := 0) rfl 0 rfl (by decide +kernel) ?_
  refine s_getR (pc := 103) (k := 22) c1 ft_X7_63 rfl (by decide +kernel) ?_
  refine s_iload_n (pc := 106) (k0 := 1) (i := 1) rfl 1 rfl (by decide +kernel) ?_
  refine S_gd (fun c6 => ?_)
  refine s_lald (pc := 107) c2 c6 (by decide +kernel) ?_
  refine s_aload_n (pc := 108) (k0 := 0) (i := 0) rfl 0 rfl (by decide +kernel) ?_
  refine s_getR (pc := 109) (k := 24) c1 ft_X7_69 rfl (by decide +kernel) ?_
  refine s_iload_n (pc := 112) (k0 := 2) (i := 2) rfl 2 rfl (by decide +kernel) ?_
  refine S_gd (fun c7 => ?_)
  refine s_lald (pc := 113) c4 c7 (by decide +kernel) ?_
  refine s_lmul (pc := 114) (by decide +kernel) ?_
  refine s_lsub (pc := 115) (by decide +kernel) ?_
  refine s_nmJ (fun v8 => ?_)
  refine s_lstore (pc := 116) (L' := [(13, .long v8), (0, .ref a0), (1, .int a1), (2, .int a2), (3, .long a3), (5, .long a5), (7, .long a7), (9, .long a9), (11, .int a11)]) (i := 13) (by decide) rfl (by decide +kernel) ?_
  refine s_aload_n (pc := 118) (k0 := 0) (i := 0) rfl 1 rfl (by decide +kernel) ?_
  refine s_getR (pc := 119) (k := 23) c1 ft_X7_66 rfl (by decide +kernel) ?_
  refine s_iload_n (pc := 122) (k0 := 1) (i := 1) rfl 2 rfl (by decide +kernel) ?_
  refine S_gd (fun c9 => ?_)
  refine S_gd (fun c10 => ?_)
  refine s_lald (pc := 123) c9 c10 (by decide +kernel) ?_
  refine s_aload_n (pc := 124) (k0 := 0) (i := 0) rfl 1 rfl (by decide +kernel) ?_
  refine s_getR (pc := 125) (k := 24) c1 ft_X7_69 rfl (by decide +kernel) ?_
  refine s_iload_n (pc := 128) (k0 := 2) (i := 2) rfl 3 rfl (by decide +kernel) ?_
  refine s_lald (pc := 129) c4 c7 (by decide +kernel) ?_
  refine s_lmul (pc := 130) (by decide +kernel) ?_
  refine s_aload_n (pc := 131) (k0 := 0) (i := 0) rfl 1 rfl (by decide +kernel) ?_
  refine s_getR (pc := 132) (k := 23) c1 ft_X7_66 rfl (by decide +kernel) ?_
  refine s_iload_n (pc := 135) (k0 := 2) (i := 2) rfl 3 rfl (by decide +kernel) ?_
  refine S_gd (fun c11 => ?_)
  refine s_lald (pc := 136) c9 c11 (by decide +kernel) ?_
  refine s_aload_n (pc := 137) (k0 := 0) (i := 0) rfl 1 rfl (by decide +kernel) ?_
  refine s_getR (pc := 138) (k := 24) c1 ft_X7_69 rfl (by decide +kernel) ?_
  refine s_iload_n (pc := 141) (k0 := 1) (i := 1) rfl 2 rfl (by decide +kernel) ?_
  refine s_lald (pc := 142) c4 c5 (by decide +kernel) ?_
  refine s_lmul (pc := 143) (by decide +kernel) ?_
  refine s_lsub (pc := 144) (by decide +kernel) ?_
  refine s_nmJ (fun v12 => ?_)
  refine s_lstore (pc := 145) (L' := [(15, .long v12), (13, .long v8), (0, .ref a0), (1, .int a1), (2, .int a2), (3, .long a3), (5, .long a5), (7, .long a7), (9, .long a9), (11, .int a11)]) (i := 15) (by decide) rfl (by decide +kernel) ?_
  refine s_lload (pc := 147) (i := 13) 1 rfl (by decide +kernel) ?_
  refine s_lload (pc := 149) (i := 15) 0 rfl (by decide +kernel) ?_
  refine s_cSj (pc := 151) [.long v8, .long v12] (tX7_common v8 v12 h) cw_X7_204 rfl ⟨⟨Nat.le_of_ble_eq_true rfl, Nat.le_of_ble_eq_true rfl⟩, Nat.le_of_ble_eq_true rfl⟩ rfl (by decide +kernel) (fun w15 g13 e14 => ?_)
  refine s_lload (pc := 154) (i := 15) 0 rfl (by decide +kernel) ?_
  refine s_lconst (pc := 156) (n := 0) (v := (0 : Int64)) (by decide) (by decide +kernel) ?_
  refine s_lcmp (pc := 157) (by decide +kernel) ?_
  refine s_if_ge (pc := 158) (off := 9) 167 (by decide +kernel) (by decide) (fun _ => ?_) (fun _ => ?_)
  · refine s_lconst (pc := 167) (n := 1) (v := (1 : Int64)) (by decide) (by decide +kernel) ?_
    refine S_sub [2, 3, 4, 5, 6, 7, 8, 9, 1, 0] rfl ?_
    exact pX7_meet_b168 (1 : Int64) w15 a0 a1 a2 a3 a5 a7 a9 a11 v8 v12 g13
  · refine s_ldc2 (pc := 161) (v := (-1 : Int64)) (index := 207) (gd_of 1148 (by decide +kernel) rfl) (by decide +kernel) ?_
    refine s_goto (pc := 164) (off := 4) 168 (by decide +kernel) (by decide) ?_
    refine S_sub [2, 3, 4, 5, 6, 7, 8, 9, 1, 0] rfl ?_
    exact pX7_meet_b168 (-1 : Int64) w15 a0 a1 a2 a3 a5 a7 a9 a11 v8 v12 g13
theorem pX7_meet_b63 {h0 : xH}    (a0 : Nat) (a1 : Int32) (a2 : Int32) (a3 : Int64) (a5 : Int64) (a7 : Int64) (a9 : Int64) (a11 : Int32) (a12 : Int32) (h : xH) : S emV kX7_meet h0 63 [(0, .ref a0), (1, .int a1), (2, .int a2), (3, .long a3), (5, .long a5), (7, .long a7), (9, .long a9), (11, .int a11), (12, .int a12)] [] h (fX7_meet_b63  a0 a1 a2 a3 a5 a7 a9 a11 a12 h) := by
  unfold fX7_meet_b63
  refine s_iload (pc := 63) (i := 11) 7 rfl (by decide +kernel) ?_
  refine s_if_gt (pc := 65) (off := 24) 89 (by decide +kernel) (by decide) (fun _ => ?_) (fun _ => ?_)
  · refine S_sub [0, 1, 2, 3, 4, 5, 6, 7] rfl ?_
    exact pX7_meet_b89 a0 a1 a2 a3 a5 a7 a9 a11 h
  · refine s_iload (pc := 68) (i := 12) 8 rfl (by decide +kernel) ?_
    refine s_if_gt (pc := 70) (off := 19) 89 (by decide +kernel) (by decide) (fun _ => ?_) (fun _ => ?_)
    · refine S_sub [0, 1, 2, 3, 4, 5, 6, 7] rfl ?_
      exact pX7_meet_b89 a0 a1 a2 a3 a5 a7 a9 a11 h
    · refine s_aload_n (pc := 73) (k0 := 0) (i := 0) rfl 0 rfl (by decide +kernel) ?_
      refine s_lload_n (pc := 74) (k0 := 3) (i := 3) rfl 3 rfl (by decide +kernel) ?_
      refine s_lload (pc := 75) (i := 5) 4 rfl (by decide +kernel) ?_
      refine s_lload (pc := 77) (i := 7) 5 rfl (by decide +kernel) ?_
      refine s_lload (pc := 79) (i := 9) 6 rfl (by decide +kernel) ?_
      refine s_iload_n (pc := 81) (k0 := 1) (i := 1) rfl 1 rfl (by decide +kernel) ?_
      refine s_i2l (pc := 82) (by decide +kernel) ?_
      refine S_gd (fun c1 => ?_)
      refine s_cVv (pc := 83) [.long a3, .long a5, .long a7, .long a9, .long a1.toInt64] (tX7_addNew a0 a3 a5 a7 a9 a1.toInt64 h) c1 cw_X7_200 rfl ⟨⟨Nat.le_of_ble_eq_true rfl, Nat.le_of_ble_eq_true rfl⟩, Nat.le_of_ble_eq_true rfl⟩ rfl (by decide +kernel) (fun _ g2 e3 => ?_)
      refine s_goto (pc := 86) (off := 146) 232 (by decide +kernel) (by decide) ?_
      exact s_vret (pc := 232) rfl (by decide +kernel)
theorem pX7_meet_e    (a0 : Nat) (a1 : Int32) (a2 : Int32) (a3 : Int64) (a5 : Int64) (a7 : Int64) (a9 : Int64) (h : xH) : S emV kX7_meet h 0 [(0, .ref a0), (1, .int a1), (2, .int a2), (3, .long a3), (5, .long a5), (7, .long a7), (9, .long a9)] [] h (fX7_meet  a0 a1 a2 a3 a5 a7 a9 h) := by
  unfold fX7_meet
  refine s_lload_n (pc := 0) (k0 := 3) (i := 3) rfl 3 rfl (by decide +kernel) ?_
  refine s_lload (pc := 1) (i := 5) 4 rfl (by decide +kernel) ?_
  refine s_lload (pc := 3) (i := 7) 5 rfl (by decide +kernel) ?_
  refine s_lload (pc := 5) (i := 9) 6 rfl (by decide +kernel) ?_
  refine s_cSi (pc := 7) [.long a3, .long a5, .long a7, .long a9] (tX7_lie a3 a5 a7 a9 h) cw_X7_189 rfl ⟨⟨Nat.le_of_ble_eq_true rfl, Nat.le_of_ble_eq_true rfl⟩, Nat.le_of_ble_eq_true rfl⟩ rfl (by decide +kernel) (fun w3 g1 e2 => ?_)
  refine s_if_lt (pc := 10) (off := 4) 14 (by decide +kernel) (by decide) (fun _ => ?_) (fun _ => ?_)
  · refine s_aload_n (pc := 14) (k0 := 0) (i := 0) rfl 0 rfl (by decide +kernel) ?_
    refine s_iload_n (pc := 15) (k0 := 1) (i := 1) rfl 1 rfl (by decide +kernel) ?_
    refine s_iload_n (pc := 16) (k0 := 2) (i := 2) rfl 2 rfl (by decide +kernel) ?_
    refine s_lload_n (pc := 17) (k0 := 3) (i := 3) rfl 3 rfl (by decide +kernel) ?_
    refine s_lload (pc := 18) (i := 5) 4 rfl (by decide +kernel) ?_
    refine S_gd (fun c4 => ?_)
    refine s_cVi (pc := 20) [.int a1, .int a2, .long a3, .long a5] (tX7_lieAt a0 a1 a2 a3 a5 g1) c4 cw_X7_196 rfl ⟨⟨Nat.le_of_ble_eq_true rfl, Nat.le_of_ble_eq_true rfl⟩, Nat.le_of_ble_eq_true rfl⟩ rfl (by decide +kernel) (fun w7 g5 e6 => ?_)
    refine s_istore (pc := 23) (L' := [(11, .int w7), (0, .ref a0), (1, .int a1), (2, .int a2), (3, .long a3), (5, .long a5), (7, .long a7), (9, .long a9)]) (i := 11) (by decide) rfl (by decide +kernel) ?_
    refine s_aload_n (pc := 25) (k0 := 0) (i := 0) rfl 1 rfl (by decide +kernel) ?_
    refine s_iload_n (pc := 26) (k0 := 1) (i := 1) rfl 2 rfl (by decide +kernel) ?_
    refine s_iload_n (pc := 27) (k0 := 2) (i := 2) rfl 3 rfl (by decide +kernel) ?_
    refine s_lload (pc := 28) (i := 7) 6 rfl (by decide +kernel) ?_
    refine s_lload (pc := 30) (i := 9) 7 rfl (by decide +kernel) ?_
    have c8 := kp e6 c4 (by decide)
    refine s_cVi (pc := 32) [.int a1, .int a2, .long a7, .long a9] (tX7_lieAt a0 a1 a2 a7 a9 g5) c8 cw_X7_196 rfl ⟨⟨Nat.le_of_ble_eq_true rfl, Nat.le_of_ble_eq_true rfl⟩, Nat.le_of_ble_eq_true rfl⟩ rfl (by decide +kernel) (fun w11 g9 e10 => ?_)
    refine s_istore (pc := 35) (L' := [(12, .int w11), (11, .int w7), (0, .ref a0), (1, .int a1), (2, .int a2), (3, .long a3), (5, .long a5), (7, .long a7), (9, .long a9)]) (i := 12) (by decide) rfl (by decide +kernel) ?_
    refine s_iload (pc := 37) (i := 11) 1 rfl (by decide +kernel) ?_
    refine s_if_lt (pc := 39) (off := 24) 63 (by decide +kernel) (by decide) (fun _ => ?_) (fun _ => ?_)
    · refine S_sub [2, 3, 4, 5, 6, 7, 8, 1, 0] rfl ?_
      exact pX7_meet_b63 a0 a1 a2 a3 a5 a7 a9 w7 w11 g9
    · refine s_iload (pc := 42) (i := 12) 0 rfl (by decide +kernel) ?_
      refine s_if_lt (pc := 44) (off := 19) 63 (by decide +kernel) (by decide) (fun _ => ?_) (fun _ => ?_)
      · refine S_sub [2, 3, 4, 5, 6, 7, 8, 1, 0] rfl ?_
        exact pX7_meet_b63 a0 a1 a2 a3 a5 a7 a9 w7 w11 g9
      · refine s_aload_n (pc := 47) (k0 := 0) (i := 0) rfl 2 rfl (by decide +kernel) ?_
        refine s_lload_n (pc := 48) (k0 := 3) (i := 3) rfl 5 rfl (by decide +kernel) ?_
        refine s_lload (pc := 49) (i := 5) 6 rfl (by decide +kernel) ?_
        refine s_lload (pc := 51) (i := 7) 7 rfl (by decide +kernel) ?_
        refine s_lload (pc := 53) (i := 9) 8 rfl (by decide +kernel) ?_
        refine s_iload_n (pc := 55) (k0 := 2) (i := 2) rfl 4 rfl (by decide +kernel) ?_
        refine s_i2l (pc := 56) (by decide +kernel) ?_
        have c12 := kp e10 c8 (by decide)
        refine s_cVv (pc := 57) [.long a3, .long a5, .long a7, .long a9, .long a2.toInt64] (tX7_addNew a0 a3 a5 a7 a9 a2.toInt64 g9) c12 cw_X7_200 rfl ⟨⟨Nat.le_of_ble_eq_true rfl, Nat.le_of_ble_eq_true rfl⟩, Nat.le_of_ble_eq_true rfl⟩ rfl (by decide +kernel) (fun _ g13 e14 => ?_)
        refine s_goto (pc := 60) (off := 172) 232 (by decide +kernel) (by decide) ?_
        exact s_vret (pc := 232) rfl (by decide +kernel)
  · exact s_vret (pc := 13) rfl (by decide +kernel)
theorem tX7_meet (a0 : Nat) (a1 : Int32) (a2 : Int32) (a3 : Int64) (a5 : Int64) (a7 : Int64) (a9 : Int64) (h : xH) : Ct yX7_meet kX7_meet emV [.ref a0, .int a1, .int a2, .long a3, .long a5, .long a7, .long a9] h (fX7_meet a0 a1 a2 a3 a5 a7 a9 h) := Ct_of (by decide +kernel) rfl rfl rfl (Nat.le_of_ble_eq_true rfl) rfl (pX7_meet_e a0 a1 a2 a3 a5 a7 a9 h)
def fX7_under_b340 (r31 : Nat → Int32 → Int64 → Int64 → Int64 → Int64 → Int32 → xH → Option (Unit × xH))  (a0 : Nat) (a1 : Int32) (a2 : Int64) (a4 : Int64) (a6 : Int64) (a8 : Int64) (a10 : Int32) (h : xH) : Option (Unit × xH) :=
  lt (a10 + (1 : Int32)) (fun v1 =>
  r31 a0 a1 a2 a4 a6 a8 v1 h)
def fX7_under_b300 (r31 : Nat → Int32 → Int64 → Int64 → Int64 → Int64 → Int32 → xH → Option (Unit × xH)) (s0 : Int64) (a0 : Nat) (a1 : Int32) (a2 : Int64) (a4 : Int64) (a6 : Int64) (a8 : Int64) (a10 : Int32) (a16 : Int64) (a18 : Int64) (a20 : Int32) (a23 : Int64) (h : xH) : Option (Unit × xH) :=
  if kc h a0 = 7 then
  bd (fX7_meet a0 a1 a20 a6 a8 a23 s0 h) (fun _ g2 =>
  bd (fX7_addNew a0 a23 s0 a16 a18 a20.toInt64 g2) (fun _ g5 =>
  fX7_under_b340 r31 a0 a1 a2 a4 a23 s0 a10 g5))
  else none
def fX7_under_b287 (r31 : Nat → Int32 → Int64 → Int64 → Int64 → Int64 → Int32 → xH → Option (Unit × xH)) (s0 : Int64) (a0 : Nat) (a1 : Int32) (a2 : Int64) (a4 : Int64) (a6 : Int64) (a8 : Int64) (a10 : Int32) (a16 : Int64) (a18 : Int64) (a20 : Int32) (a22 : Int32) (h : xH) : Option (Unit × xH) :=
  if a22 = 0 then (
  fX7_under_b300 r31 (1 : Int64) a0 a1 a2 a4 a6 a8 a10 a16 a18 a20 s0 h)
  else (
  fX7_under_b300 r31 a18 a0 a1 a2 a4 a6 a8 a10 a16 a18 a20 s0 h)
def fX7_under_b273 (r31 : Nat → Int32 → Int64 → Int64 → Int64 → Int64 → Int32 → xH → Option (Unit × xH)) (s0 : Int32) (a0 : Nat) (a1 : Int32) (a2 : Int64) (a4 : Int64) (a6 : Int64) (a8 : Int64) (a10 : Int32) (a16 : Int64) (a18 : Int64) (a20 : Int32) (h : xH) : Option (Unit × xH) :=
  if s0 = 0 then (
  fX7_under_b287 r31 a4 a0 a1 a2 a4 a6 a8 a10 a16 a18 a20 s0 h)
  else (
  fX7_under_b287 r31 a16 a0 a1 a2 a4 a6 a8 a10 a16 a18 a20 s0 h)
def fX7_under_b255 (r31 : Nat → Int32 → Int64 → Int64 → Int64 → Int64 → Int32 → xH → Option (Unit × xH))  (a0 : Nat) (a1 : Int32) (a2 : Int64) (a4 : Int64) (a6 : Int64) (a8 : Int64) (a10 : Int32) (a16 : Int64) (a18 : Int64) (a20 : Int32) (h : xH) : Option (Unit × xH) :=
  bd (fX7_lie a16 a18 a4 (1 : Int64) h) (fun w3 g1 =>
  if 0 < w3 then (
  fX7_under_b273 r31 (0 : Int32) a0 a1 a2 a4 a6 a8 a10 a16 a18 a20 g1)
  else (
  fX7_under_b273 r31 (1 : Int32) a0 a1 a2 a4 a6 a8 a10 a16 a18 a20 g1))
def fX7_under_b178 (r31 : Nat → Int32 → Int64 → Int64 → Int64 → Int64 → Int32 → xH → Option (Unit × xH))  (a0 : Nat) (a1 : Int32) (a2 : Int64) (a4 : Int64) (a6 : Int64) (a8 : Int64) (a10 : Int32) (a12 : Int64) (a14 : Int64) (a16 : Int64) (a18 : Int64) (a20 : Int32) (a21 : Int32) (h : xH) : Option (Unit × xH) :=
  if a21 = 0 then (
  bd (fX7_lie a6 a8 a12 a14 h) (fun w3 g1 =>
  if 0 ≤ w3 then (
  if kc g1 a0 = 7 then
  bd (fX7_addNew a0 a12 a14 a6 a8 a20.toInt64 g1) (fun _ g5 =>
  fX7_under_b255 r31 a0 a1 a2 a4 a6 a8 a10 a16 a18 a20 g5)
  else none)
  else (
  if kc g1 a0 = 7 then
  bd (fX7_addNew a0 a6 a8 a12 a14 a1.toInt64 g1) (fun _ g8 =>
  fX7_under_b255 r31 a0 a1 a2 a4 a12 a14 a10 a16 a18 a20 g8)
  else none)))
  else (
  if kc h a0 = 7 then
  bd (fX7_addNew a0 a12 a14 a16 a18 a20.toInt64 h) (fun _ g11 =>
  fX7_under_b340 r31 a0 a1 a2 a4 a6 a8 a10 g11)
  else none)
def fX7_under_b130 (r31 : Nat → Int32 → Int64 → Int64 → Int64 → Int64 → Int32 → xH → Option (Unit × xH)) (s0 : Int32) (a0 : Nat) (a1 : Int32) (a2 : Int64) (a4 : Int64) (a6 : Int64) (a8 : Int64) (a10 : Int32) (a12 : Int64) (a14 : Int64) (a16 : Int64) (a18 : Int64) (a20 : Int32) (h : xH) : Option (Unit × xH) :=
  bd (fX7_lie a12 a14 a4 (1 : Int64) h) (fun w3 g1 =>
  if w3 < 0 then (
  fX7_under_b178 r31 a0 a1 a2 a4 a6 a8 a10 a12 a14 a16 a18 a20 s0 g1)
  else (
  bd (fX7_lie a6 a8 a4 (1 : Int64) g1) (fun w6 g4 =>
  if 0 ≤ w6 then (
  fX7_under_b178 r31 a0 a1 a2 a4 a6 a8 a10 a12 a14 a16 a18 a20 s0 g4)
  else (
  if kc g4 a0 = 7 then
  bd (fX7_addNew a0 a6 a8 a4 (1 : Int64) a1.toInt64 g4) (fun _ g8 =>
  lt (1 : Int64) (fun v10 =>
  fX7_under_b178 r31 a0 a1 a2 a4 a4 v10 a10 a12 a14 a16 a18 a20 s0 g8))
  else none))))
def fX7_under_b125 (r31 : Nat → Int32 → Int64 → Int64 → Int64 → Int64 → Int32 → xH → Option (Unit × xH))  (a0 : Nat) (a1 : Int32) (a2 : Int64) (a4 : Int64) (a6 : Int64) (a8 : Int64) (a10 : Int32) (a12 : Int64) (a14 : Int64) (a16 : Int64) (a18 : Int64) (a20 : Int32) (h : xH) : Option (Unit × xH) :=
  fX7_under_b130 r31 (1 : Int32) a0 a1 a2 a4 a6 a8 a10 a12 a14 a16 a18 a20 h
def fX7_under_b383 (r383 : Nat → Int32 → xH → Option (Unit × xH))  (a0 : Nat) (a10 : Int32) (h : xH) : Option (Unit × xH) :=
  if kc h a0 = 7 then
  if ((5 : Int32) * (hI h a0 30)) ≤ a10 then (
  some ((), h))
  else (
  if kc h (hR h a0 29) = 9 then
  if ix a10 (kl h (hR h a0 29)) then
  if kc h (hR h a0 28) = 9 then
  if ix a10 (kl h (hR h a0 28)) then
  lt (sJ h (hR h a0 28) a10.toNatClampNeg (hJ h (hR h a0 29) a10.toNatClampNeg)) (fun g6 =>
  lt (a10 + (1 : Int32)) (fun v8 =>
  r383 a0 v8 g6))
  else none
  else none
  else none
  else none)
  else none
def fX7_under_l383  : Nat → Nat → Int32 → xH → Option (Unit × xH)
  | 0 => fun _ _ _ => none
  | k + 1 => fX7_under_b383 (fX7_under_l383  k)
def fX7_under_b372   (a0 : Nat) (h : xH) : Option (Unit × xH) :=
  if kc h a0 = 7 then
  lt (sI h a0 27 (hI h a0 30)) (fun g2 =>
  lt (0 : Int32) (fun v4 =>
  fX7_under_l383 FU a0 v4 g2))
  else none
def fX7_under_b31 (r31 : Nat → Int32 → Int64 → Int64 → Int64 → Int64 → Int32 → xH → Option (Unit × xH))  (a0 : Nat) (a1 : Int32) (a2 : Int64) (a4 : Int64) (a6 : Int64) (a8 : Int64) (a10 : Int32) (h : xH) : Option (Unit × xH) :=
  if kc h a0 = 7 then
  if (hI h a0 27) ≤ a10 then (
  bd (fX7_lie a6 a8 a4 (1 : Int64) h) (fun w4 g2 =>
  if 0 ≤ w4 then (
  fX7_under_b372 a0 g2)
  else (
  bd (fX7_addNew a0 a6 a8 a4 (1 : Int64) a1.toInt64 g2) (fun _ g6 =>
  fX7_under_b372 a0 g6))))
  else (
  lt ((5 : Int32) * a10) (fun v8 =>
  if kc h (hR h a0 28) = 9 then
  if ix v8 (kl h (hR h a0 28)) then
  lt (hJ h (hR h a0 28) v8.toNatClampNeg) (fun v11 =>
  if ix (v8 + (1 : Int32)) (kl h (hR h a0 28)) then
  lt (hJ h (hR h a0 28) (v8 + (1 : Int32)).toNatClampNeg) (fun v13 =>
  if ix (v8 + (2 : Int32)) (kl h (hR h a0 28)) then
  lt (hJ h (hR h a0 28) (v8 + (2 : Int32)).toNatClampNeg) (fun v15 =>
  if ix (v8 + (3 : Int32)) (kl h (hR h a0 28)) then
  lt (hJ h (hR h a0 28) (v8 + (3 : Int32)).toNatClampNeg) (fun v17 =>
  if ix (v8 + (4 : Int32)) (kl h (hR h a0 28)) then
  lt ((hJ h (hR h a0 28) (v8 + (4 : Int32)).toNatClampNeg).toInt32) (fun v19 =>
  bd (fX7_lie v15 v17 a2 (1 : Int64) h) (fun w22 g20 =>
  if w22 ≤ 0 then (
  fX7_under_b125 r31 a0 a1 a2 a4 a6 a8 a10 v11 v13 v15 v17 v19 g20)
  else (
  bd (fX7_lie v11 v13 a4 (1 : Int64) g20) (fun w25 g23 =>
  if w25 < 0 then (
  fX7_under_b130 r31 (0 : Int32) a0 a1 a2 a4 a6 a8 a10 v11 v13 v15 v17 v19 g23)
  else (
  fX7_under_b125 r31 a0 a1 a2 a4 a6 a8 a10 v11 v13 v15 v17 v19 g23)))))
  else none)
  else none)
  else none)
  else none)
  else none
  else none))
  else none
def fX7_under_l31  : Nat → Nat → Int32 → Int64 → Int64 → Int64 → Int64 → Int32 → xH → Option (Unit × xH)
  | 0 => fun _ _ _ _ _ _ _ _ => none
  | k + 1 => fX7_under_b31 (fX7_under_l31  k)
def fX7_under   (a0 : Nat) (a1 : Int32) (h : xH) : Option (Unit × xH) :=
  if kc h a0 = 7 then
  if kc h (hR h a0 20) = 8 then
  if ix a1 (kl h (hR h a0 20)) then
  lt ((hI h (hR h a0 20) a1.toNatClampNeg).toInt64) (fun v4 =>
  if kc h (hR h a0 21) = 8 then
  if ix a1 (kl h (hR h a0 21)) then
  lt ((hI h (hR h a0 21) a1.toNatClampNeg).toInt64) (fun v7 =>
  lt (sI h a0 30 (0 : Int32)) (fun g8 =>
  lt (1 : Int64) (fun v10 =>
  lt (0 : Int32) (fun v11 =>
  fX7_under_l31 FU a0 a1 v4 v7 v4 v10 v11 g8))))
  else none
  else none)
  else none
  else none
  else none
theorem pX7_under_b340 {h0 : xH} {r31 : Nat → Int32 → Int64 → Int64 → Int64 → Int64 → Int32 → xH → Option (Unit × xH)} (hr31 : ∀  (a0 : Nat) (a1 : Int32) (a2 : Int64) (a4 : Int64) (a6 : Int64) (a8 : Int64) (a10 : Int32) (g : xH), S emV kX7_under h0 31 [(0, .ref a0), (1, .int a1), (2, .long a2), (4, .long a4), (6, .long a6), (8, .long a8), (10, .int a10)] [] g (r31  a0 a1 a2 a4 a6 a8 a10 g))  (a0 : Nat) (a1 : Int32) (a2 : Int64) (a4 : Int64) (a6 : Int64) (a8 : Int64) (a10 : Int32) (h : xH) : S emV kX7_under h0 340 [(0, .ref a0), (1, .int a1), (2, .long a2), (4, .long a4), (6, .long a6), (8, .long a8), (10, .int a10)] [] h (fX7_under_b340 r31 a0 a1 a2 a4 a6 a8 a10 h) := by
  unfold fX7_under_b340
  refine s_iinc (pc := 340) (L' := [(10, .int (a10 + (1 : Int32))), (0, .ref a0), (1, .int a1), (2, .long a2), (4, .long a4), (6, .long a6), (8, .long a8)]) (i := 10) (n := 1) 6 rfl rfl (by decide) rfl (by decide +kernel) ?_
  refine s_nmI0 (e := a10 + (1 : Int32)) (L := fun v1 => [(10, .int v1), (0, .ref a0), (1, .int a1), (2, .long a2), (4, .long a4), (6, .long a6), (8, .long a8)]) (fun v1 => ?_)
  refine s_goto (pc := 343) (off := -312) 31 (by decide +kernel) (by decide) ?_
  refine S_sub [1, 2, 3, 4, 5, 6, 0] rfl ?_
  exact hr31 a0 a1 a2 a4 a6 a8 v1 h
theorem pX7_under_b300 {h0 : xH} {r31 : Nat → Int32 → Int64 → Int64 → Int64 → Int64 → Int32 → xH → Option (Unit × xH)} (hr31 : ∀  (a0 : Nat) (a1 : Int32) (a2 : Int64) (a4 : Int64) (a6 : Int64) (a8 : Int64) (a10 : Int32) (g : xH), S emV kX7_under h0 31 [(0, .ref a0), (1, .int a1), (2, .long a2), (4, .long a4), (6, .long a6), (8, .long a8), (10, .int a10)] [] g (r31  a0 a1 a2 a4 a6 a8 a10 g)) (s0 : Int64) (a0 : Nat) (a1 : Int32) (a2 : Int64) (a4 : Int64) (a6 : Int64) (a8 : Int64) (a10 : Int32) (a16 : Int64) (a18 : Int64) (a20 : Int32) (a23 : Int64) (h : xH) : S emV kX7_under h0 300 [(0, .ref a0), (1, .int a1), (2, .long a2), (4, .long a4), (6, .long a6), (8, .long a8), (10, .int a10), (16, .long a16), (18, .long a18), (20, .int a20), (23, .long a23)] [.long s0] h (fX7_under_b300 r31 s0 a0 a1 a2 a4 a6 a8 a10 a16 a18 a20 a23 h) := by
  unfold fX7_under_b300
  refine s_lstore (pc := 300) (L' := [(25, .long s0), (0, .ref a0), (1, .int a1), (2, .long a2), (4, .long a4), (6, .long a6), (8, .long a8), (10, .int a10), (16, .long a16), (18, .long a18), (20, .int a20), (23, .long a23)]) (i := 25) (by decide) rfl (by decide +kernel) ?_
  refine s_aload_n (pc := 302) (k0 := 0) (i := 0) rfl 1 rfl (by decide +kernel) ?_
  refine s_iload_n (pc := 303) (k0 := 1) (i := 1) rfl 2 rfl (by decide +kernel) ?_
  refine s_iload (pc := 304) (i := 20) 10 rfl (by decide +kernel) ?_
  refine s_lload (pc := 306) (i := 6) 5 rfl (by decide +kernel) ?_
  refine s_lload (pc := 308) (i := 8) 6 rfl (by decide +kernel) ?_
  refine s_lload (pc := 310) (i := 23) 11 rfl (by decide +kernel) ?_
  refine s_lload (pc := 312) (i := 25) 0 rfl (by decide +kernel) ?_
  refine S_gd (fun c1 => ?_)
  refine s_cVv (pc := 314) [.int a1, .int a20, .long a6, .long a8, .long a23, .long s0] (tX7_meet a0 a1 a20 a6 a8 a23 s0 h) c1 cw_X7_212 rfl ⟨⟨Nat.le_of_ble_eq_true rfl, Nat.le_of_ble_eq_true rfl⟩, Nat.le_of_ble_eq_true rfl⟩ rfl (by decide +kernel) (fun _ g2 e3 => ?_)
  refine s_aload_n (pc := 317) (k0 := 0) (i := 0) rfl 1 rfl (by decide +kernel) ?_
  refine s_lload (pc := 318) (i := 23) 11 rfl (by decide +kernel) ?_
  refine s_lload (pc := 320) (i := 25) 0 rfl (by decide +kernel) ?_
  refine s_lload (pc := 322) (i := 16) 8 rfl (by decide +kernel) ?_
  refine s_lload (pc := 324) (i := 18) 9 rfl (by decide +kernel) ?_
  refine s_iload (pc := 326) (i := 20) 10 rfl (by decide +kernel) ?_
  refine s_i2l (pc := 328) (by decide +kernel) ?_
  have c4 := kp e3 c1 (by decide)
  refine s_cVv (pc := 329) [.long a23, .long s0, .long a16, .long a18, .long a20.toInt64] (tX7_addNew a0 a23 s0 a16 a18 a20.toInt64 g2) c4 cw_X7_200 rfl ⟨⟨Nat.le_of_ble_eq_true rfl, Nat.le_of_ble_eq_true rfl⟩, Nat.le_of_ble_eq_true rfl⟩ rfl (by decide +kernel) (fun _ g5 e6 => ?_)
  refine s_lload (pc := 332) (i := 23) 11 rfl (by decide +kernel) ?_
  refine s_lstore (pc := 334) (L' := [(6, .long a23), (25, .long s0), (0, .ref a0), (1, .int a1), (2, .long a2), (4, .long a4), (8, .long a8), (10, .int a10), (16, .long a16), (18, .long a18), (20, .int a20), (23, .long a23)]) (i := 6) (by decide) rfl (by decide +kernel) ?_
  refine s_lload (pc := 336) (i := 25) 1 rfl (by decide +kernel) ?_
  refine s_lstore (pc := 338) (L' := [(8, .long s0), (6, .long a23), (25, .long s0), (0, .ref a0), (1, .int a1), (2, .long a2), (4, .long a4), (10, .int a10), (16, .long a16), (18, .long a18), (20, .int a20), (23, .long a23)]) (i := 8) (by decide) rfl (by decide +kernel) ?_
  refine S_sub [3, 4, 5, 6, 1, 0, 7] rfl ?_
  exact pX7_under_b340 hr31 a0 a1 a2 a4 a23 s0 a10 g5
theorem pX7_under_b287 {h0 : xH} {r31 : Nat → Int32 → Int64 → Int64 → Int64 → Int64 → Int32 → xH → Option (Unit × xH)} (hr31 : ∀  (a0 : Nat) (a1 : Int32) (a2 : Int64) (a4 : Int64) (a6 : Int64) (a8 : Int64) (a10 : Int32) (g : xH), S emV kX7_under h0 31 [(0, .ref a0), (1, .int a1), (2, .long a2), (4, .long a4), (6, .long a6), (8, .long a8), (10, .int a10)] [] g (r31  a0 a1 a2 a4 a6 a8 a10 g)) (s0 : Int64) (a0 : Nat) (a1 : Int32) (a2 : Int64) (a4 : Int64) (a6 : Int64) (a8 : Int64) (a10 : Int32) (a16 : Int64) (a18 : Int64) (a20 : Int32) (a22 : Int32) (h : xH) : S emV kX7_under h0 287 [(0, .ref a0), (1, .int a1), (2, .long a2), (4, .long a4), (6, .long a6), (8, .long a8), (10, .int a10), (16, .long a16), (18, .long a18), (20, .int a20), (22, .int a22)] [.long s0] h (fX7_under_b287 r31 s0 a0 a1 a2 a4 a6 a8 a10 a16 a18 a20 a22 h) := by
  unfold fX7_under_b287
  refine s_lstore (pc := 287) (L' := [(23, .long s0), (0, .ref a0), (1, .int a1), (2, .long a2), (4, .long a4), (6, .long a6), (8, .long a8), (10, .int a10), (16, .long a16), (18, .long a18), (20, .int a20), (22, .int a22)]) (i := 23) (by decide) rfl (by decide +kernel) ?_
  refine s_iload (pc := 289) (i := 22) 11 rfl (by decide +kernel) ?_
  refine s_if_eq (pc := 291) (off := 8) 299 (by decide +kernel) (by decide) (fun _ => ?_) (fun _ => ?_)
  · refine s_lconst (pc := 299) (n := 1) (v := (1 : Int64)) (by decide) (by decide +kernel) ?_
    refine S_sub [1, 2, 3, 4, 5, 6, 7, 8, 9, 10, 0] rfl ?_
    exact pX7_under_b300 hr31 (1 : Int64) a0 a1 a2 a4 a6 a8 a10 a16 a18 a20 s0 h
  · refine s_lload (pc := 294) (i := 18) 9 rfl (by decide +kernel) ?_
    refine s_goto (pc := 296) (off := 4) 300 (by decide +kernel) (by decide) ?_
    refine S_sub [1, 2, 3, 4, 5, 6, 7, 8, 9, 10, 0] rfl ?_
    exact pX7_under_b300 hr31 a18 a0 a1 a2 a4 a6 a8 a10 a16 a18 a20 s0 h
theorem pX7_under_b273 {h0 : xH} {r31 : Nat → Int32 → Int64 → Int64 → Int64 → Int64 → Int32 → xH → Option (Unit × xH)} (hr31 : ∀  (a0 : Nat) (a1 : Int32) (a2 : Int64) (a4 : Int64) (a6 : Int64) (a8 : Int64) (a10 : Int32) (g : xH), S emV kX7_under h0 31 [(0, .ref a0), (1, .int a1), (2, .long a2), (4, .long a4), (6, .long a6), (8, .long a8), (10, .int a10)] [] g (r31  a0 a1 a2 a4 a6 a8 a10 g)) (s0 : Int32) (a0 : Nat) (a1 : Int32) (a2 : Int64) (a4 : Int64) (a6 : Int64) (a8 : Int64) (a10 : Int32) (a16 : Int64) (a18 : Int64) (a20 : Int32) (h : xH) : S emV kX7_under h0 273 [(0, .ref a0), (1, .int a1), (2, .long a2), (4, .long a4), (6, .long a6), (8, .long a8), (10, .int a10), (16, .long a16), (18, .long a18), (20, .int a20)] [.int s0] h (fX7_under_b273 r31 s0 a0 a1 a2 a4 a6 a8 a10 a16 a18 a20 h) := by
  unfold fX7_under_b273
  refine s_istore (pc := 273) (L' := [(22, .int s0), (0, .ref a0), (1, .int a1), (2, .long a2), (4, .long a4), (6, .long a6), (8, .long a8), (10, .int a10), (16, .long a16), (18, .long a18), (20, .int a20)]) (i := 22) (by decide) rfl (by decide +kernel) ?_
  refine s_iload (pc := 275) (i := 22) 0 rfl (by decide +kernel) ?_
  refine s_if_eq (pc := 277) (off := 8) 285 (by decide +kernel) (by decide) (fun _ => ?_) (fun _ => ?_)
  · refine s_lload (pc := 285) (i := 4) 4 rfl (by decide +kernel) ?_
    refine S_sub [1, 2, 3, 4, 5, 6, 7, 8, 9, 10, 0] rfl ?_
    exact pX7_under_b287 hr31 a4 a0 a1 a2 a4 a6 a8 a10 a16 a18 a20 s0 h
  · refine s_lload (pc := 280) (i := 16) 8 rfl (by decide +kernel) ?_
    refine s_goto (pc := 282) (off := 5) 287 (by decide +kernel) (by decide) ?_
    refine S_sub [1, 2, 3, 4, 5, 6, 7, 8, 9, 10, 0] rfl ?_
    exact pX7_under_b287 hr31 a16 a0 a1 a2 a4 a6 a8 a10 a16 a18 a20 s0 h
theorem pX7_under_b255 {h0 : xH} {r31 : Nat → Int32 → Int64 → Int64 → Int64 → Int64 → Int32 → xH → Option (Unit × xH)} (hr31 : ∀  (a0 : Nat) (a1 : Int32) (a2 : Int64) (a4 : Int64) (a6 : Int64) (a8 : Int64) (a10 : Int32) (g : xH), S emV kX7_under h0 31 [(0, .ref a0), (1, .int a1), (2, .long a2), (4, .long a4), (6, .long a6), (8, .long a8), (10, .int a10)] [] g (r31  a0 a1 a2 a4 a6 a8 a10 g))  (a0 : Nat) (a1 : Int32) (a2 : Int64) (a4 : Int64) (a6 : Int64) (a8 : Int64) (a10 : Int32) (a16 : Int64) (a18 : Int64) (a20 : Int32) (h : xH) : S emV kX7_under h0 255 [(0, .ref a0), (1, .int a1), (2, .long a2), (4, .long a4), (6, .long a6), (8, .long a8), (10, .int a10), (16, .long a16), (18, .long a18), (20, .int a20)] [] h (fX7_under_b255 r31 a0 a1 a2 a4 a6 a8 a10 a16 a18 a20 h) := by
  unfold fX7_under_b255
  refine s_lload (pc := 255) (i := 16) 7 rfl (by decide +kernel) ?_
  refine s_lload (pc := 257) (i := 18) 8 rfl (by decide +kernel) ?_
  refine s_lload (pc := 259) (i := 4) 3 rfl (by decide +kernel) ?_
  refine s_lconst (pc := 261) (n := 1) (v := (1 : Int64)) (by decide) (by decide +kernel) ?_
  refine s_cSi (pc := 262) [.long a16, .long a18, .long a4, .long (1 : Int64)] (tX7_lie a16 a18 a4 (1 : Int64) h) cw_X7_189 rfl ⟨⟨Nat.le_of_ble_eq_true rfl, Nat.le_of_ble_eq_true rfl⟩, Nat.le_of_ble_eq_true rfl⟩ rfl (by decide +kernel) (fun w3 g1 e2 => ?_)
  refine s_if_gt (pc := 265) (off := 7) 272 (by decide +kernel) (by decide) (fun _ => ?_) (fun _ => ?_)
  · refine s_iconst (pc := 272) (n := 0) (v := (0 : Int32)) (by decide) (by decide +kernel) ?_
    exact pX7_under_b273 hr31 (0 : Int32) a0 a1 a2 a4 a6 a8 a10 a16 a18 a20 g1
  · refine s_iconst (pc := 268) (n := 1) (v := (1 : Int32)) (by decide) (by decide +kernel) ?_
    refine s_goto (pc := 269) (off := 4) 273 (by decide +kernel) (by decide) ?_
    exact pX7_under_b273 hr31 (1 : Int32) a0 a1 a2 a4 a6 a8 a10 a16 a18 a20 g1
theorem pX7_under_b178 {h0 : xH} {r31 : Nat → Int32 → Int64 → Int64 → Int64 → Int64 → Int32 → xH → Option (Unit × xH)} (hr31 : ∀  (a0 : Nat) (a1 : Int32) (a2 : Int64) (a4 : Int64) (a6 : Int64) (a8 : Int64) (a10 : Int32) (g : xH), S emV kX7_under h0 31 [(0, .ref a0), (1, .int a1), (2, .long a2), (4, .long a4), (6, .long a6), (8, .long a8), (10, .int a10)] [] g (r31  a0 a1 a2 a4 a6 a8 a10 g))  (a0 : Nat) (a1 : Int32) (a2 : Int64) (a4 : Int64) (a6 : Int64) (a8 : Int64) (a10 : Int32) (a12 : Int64) (a14 : Int64) (a16 : Int64) (a18 : Int64) (a20 : Int32) (a21 : Int32) (h : xH) : S emV kX7_under h0 178 [(0, .ref a0), (1, .int a1), (2, .long a2), (4, .long a4), (6, .long a6), (8, .long a8), (10, .int a10), (12, .long a12), (14, .long a14), (16, .long a16), (18, .long a18), (20, .int a20), (21, .int a21)] [] h (fX7_under_b178 r31 a0 a1 a2 a4 a6 a8 a10 a12 a14 a16 a18 a20 a21 h) := by
  unfold fX7_under_b178
  refine s_iload (pc := 178) (i := 21) 12 rfl (by decide +kernel) ?_
  refine s_if_eq (pc := 180) (off := 21) 201 (by decide +kernel) (by decide) (fun _ => ?_) (fun _ => ?_)
  · refine s_lload (pc := 201) (i := 6) 4 rfl (by decide +kernel) ?_
    refine s_lload (pc := 203) (i := 8) 5 rfl (by decide +kernel) ?_
    refine s_lload (pc := 205) (i := 12) 7 rfl (by decide +kernel) ?_
    refine s_lload (pc := 207) (i := 14) 8 rfl (by decide +kernel) ?_
    refine s_cSi (pc := 209) [.long a6, .long a8, .long a12, .long a14] (tX7_lie a6 a8 a12 a14 h) cw_X7_189 rfl ⟨⟨Nat.le_of_ble_eq_true rfl, Nat.le_of_ble_eq_true rfl⟩, Nat.le_of_ble_eq_true rfl⟩ rfl (by decide +kernel) (fun w3 g1 e2 => ?_)
    refine s_if_ge (pc := 212) (off := 28) 240 (by decide +kernel) (by decide) (fun _ => ?_) (fun _ => ?_)
    · refine s_aload_n (pc := 240) (k0 := 0) (i := 0) rfl 0 rfl (by decide +kernel) ?_
      refine s_lload (pc := 241) (i := 12) 7 rfl (by decide +kernel) ?_
      refine s_lload (pc := 243) (i := 14) 8 rfl (by decide +kernel) ?_
      refine s_lload (pc := 245) (i := 6) 4 rfl (by decide +kernel) ?_
      refine s_lload (pc := 247) (i := 8) 5 rfl (by decide +kernel) ?_
      refine s_iload (pc := 249) (i := 20) 11 rfl (by decide +kernel) ?_
      refine s_i2l (pc := 251) (by decide +kernel) ?_
      refine S_gd (fun c4 => ?_)
      refine s_cVv (pc := 252) [.long a12, .long a14, .long a6, .long a8, .long a20.toInt64] (tX7_addNew a0 a12 a14 a6 a8 a20.toInt64 g1) c4 cw_X7_200 rfl ⟨⟨Nat.le_of_ble_eq_true rfl, Nat.le_of_ble_eq_true rfl⟩, Nat.le_of_ble_eq_true rfl⟩ rfl (by decide +kernel) (fun _ g5 e6 => ?_)
      refine S_sub [0, 1, 2, 3, 4, 5, 6, 9, 10, 11] rfl ?_
      exact pX7_under_b255 hr31 a0 a1 a2 a4 a6 a8 a10 a16 a18 a20 g5
    · refine s_aload_n (pc := 215) (k0 := 0) (i := 0) rfl 0 rfl (by decide +kernel) ?_
      refine s_lload (pc := 216) (i := 6) 4 rfl (by decide +kernel) ?_
      refine s_lload (pc := 218) (i := 8) 5 rfl (by decide +kernel) ?_
      refine s_lload (pc := 220) (i := 12) 7 rfl (by decide +kernel) ?_
      refine s_lload (pc := 222) (i := 14) 8 rfl (by decide +kernel) ?_
      refine s_iload_n (pc := 224) (k0 := 1) (i := 1) rfl 1 rfl (by decide +kernel) ?_
      refine s_i2l (pc := 225) (by decide +kernel) ?_
      refine S_gd (fun c7 => ?_)
      refine s_cVv (pc := 226) [.long a6, .long a8, .long a12, .long a14, .long a1.toInt64] (tX7_addNew a0 a6 a8 a12 a14 a1.toInt64 g1) c7 cw_X7_200 rfl ⟨⟨Nat.le_of_ble_eq_true rfl, Nat.le_of_ble_eq_true rfl⟩, Nat.le_of_ble_eq_true rfl⟩ rfl (by decide +kernel) (fun _ g8 e9 => ?_)
      refine s_lload (pc := 229) (i := 12) 7 rfl (by decide +kernel) ?_
      refine s_lstore (pc := 231) (L' := [(6, .long a12), (0, .ref a0), (1, .int a1), (2, .long a2), (4, .long a4), (8, .long a8), (10, .int a10), (12, .long a12), (14, .long a14), (16, .long a16), (18, .long a18), (20, .int a20), (21, .int a21)]) (i := 6) (by decide) rfl (by decide +kernel) ?_
      refine s_lload (pc := 233) (i := 14) 8 rfl (by decide +kernel) ?_
      refine s_lstore (pc := 235) (L' := [(8, .long a14), (6, .long a12), (0, .ref a0), (1, .int a1), (2, .long a2), (4, .long a4), (10, .int a10), (12, .long a12), (14, .long a14), (16, .long a16), (18, .long a18), (20, .int a20), (21, .int a21)]) (i := 8) (by decide) rfl (by decide +kernel) ?_
      refine s_goto (pc := 237) (off := 18) 255 (by decide +kernel) (by decide) ?_
      refine S_sub [2, 3, 4, 5, 1, 0, 6, 9, 10, 11] rfl ?_
      exact pX7_under_b255 hr31 a0 a1 a2 a4 a12 a14 a10 a16 a18 a20 g8
  · refine s_aload_n (pc := 183) (k0 := 0) (i := 0) rfl 0 rfl (by decide +kernel) ?_
    refine s_lload (pc := 184) (i := 12) 7 rfl (by decide +kernel) ?_
    refine s_lload (pc := 186) (i := 14) 8 rfl (by decide +kernel) ?_
    refine s_lload (pc := 188) (i := 16) 9 rfl (by decide +kernel) ?_
    refine s_lload (pc := 190) (i := 18) 10 rfl (by decide +kernel) ?_
    refine s_iload (pc := 192) (i := 20) 11 rfl (by decide +kernel) ?_
    refine s_i2l (pc := 194) (by decide +kernel) ?_
    refine S_gd (fun c10 => ?_)
    refine s_cVv (pc := 195) [.long a12, .long a14, .long a16, .long a18, .long a20.toInt64] (tX7_addNew a0 a12 a14 a16 a18 a20.toInt64 h) c10 cw_X7_200 rfl ⟨⟨Nat.le_of_ble_eq_true rfl, Nat.le_of_ble_eq_true rfl⟩, Nat.le_of_ble_eq_true rfl⟩ rfl (by decide +kernel) (fun _ g11 e12 => ?_)
    refine s_goto (pc := 198) (off := 142) 340 (by decide +kernel) (by decide) ?_
    refine S_sub [0, 1, 2, 3, 4, 5, 6] rfl ?_
    exact pX7_under_b340 hr31 a0 a1 a2 a4 a6 a8 a10 g11
theorem pX7_under_b130 {h0 : xH} {r31 : Nat → Int32 → Int64 → Int64 → Int64 → Int64 → Int32 → xH → Option (Unit × xH)} (hr31 : ∀  (a0 : Nat) (a1 : Int32) (a2 : Int64) (a4 : Int64) (a6 : Int64) (a8 : Int64) (a10 : Int32) (g : xH), S emV kX7_under h0 31 [(0, .ref a0), (1, .int a1), (2, .long a2), (4, .long a4), (6, .long a6), (8, .long a8), (10, .int a10)] [] g (r31  a0 a1 a2 a4 a6 a8 a10 g)) (s0 : Int32) (a0 : Nat) (a1 : Int32) (a2 : Int64) (a4 : Int64) (a6 : Int64) (a8 : Int64) (a10 : Int32) (a12 : Int64) (a14 : Int64) (a16 : Int64) (a18 : Int64) (a20 : Int32) (h : xH) : S emV kX7_under h0 130 [(0, .ref a0), (1, .int a1), (2, .long a2), (4, .long a4), (6, .long a6), (8, .long a8), (10, .int a10), (12, .long a12), (14, .long a14), (16, .long a16), (18, .long a18), (20, .int a20)] [.int s0] h (fX7_under_b130 r31 s0 a0 a1 a2 a4 a6 a8 a10 a12 a14 a16 a18 a20 h) := by
  unfold fX7_under_b130
  refine s_istore (pc := 130) (L' := [(21, .int s0), (0, .ref a0), (1, .int a1), (2, .long a2), (4, .long a4), (6, .long a6), (8, .long a8), (10, .int a10), (12, .long a12), (14, .long a14), (16, .long a16), (18, .long a18), (20, .int a20)]) (i := 21) (by decide) rfl (by decide +kernel) ?_
  refine s_lload (pc := 132) (i := 12) 8 rfl (by decide +kernel) ?_
  refine s_lload (pc := 134) (i := 14) 9 rfl (by decide +kernel) ?_
  refine s_lload (pc := 136) (i := 4) 4 rfl (by decide +kernel) ?_
  refine s_lconst (pc := 138) (n := 1) (v := (1 : Int64)) (by decide) (by decide +kernel) ?_
  refine s_cSi (pc := 139) [.long a12, .long a14, .long a4, .long (1 : Int64)] (tX7_lie a12 a14 a4 (1 : Int64) h) cw_X7_189 rfl ⟨⟨Nat.le_of_ble_eq_true rfl, Nat.le_of_ble_eq_true rfl⟩, Nat.le_of_ble_eq_true rfl⟩ rfl (by decide +kernel) (fun w3 g1 e2 => ?_)
  refine s_if_lt (pc := 142) (off := 36) 178 (by decide +kernel) (by decide) (fun _ => ?_) (fun _ => ?_)
  · refine S_sub [1, 2, 3, 4, 5, 6, 7, 8, 9, 10, 11, 12, 0] rfl ?_
    exact pX7_under_b178 hr31 a0 a1 a2 a4 a6 a8 a10 a12 a14 a16 a18 a20 s0 g1
  · refine s_lload (pc := 145) (i := 6) 5 rfl (by decide +kernel) ?_
    refine s_lload (pc := 147) (i := 8) 6 rfl (by decide +kernel) ?_
    refine s_lload (pc := 149) (i := 4) 4 rfl (by decide +kernel) ?_
    refine s_lconst (pc := 151) (n := 1) (v := (1 : Int64)) (by decide) (by decide +kernel) ?_
    refine s_cSi (pc := 152) [.long a6, .long a8, .long a4, .long (1 : Int64)] (tX7_lie a6 a8 a4 (1 : Int64) g1) cw_X7_189 rfl ⟨⟨Nat.le_of_ble_eq_true rfl, Nat.le_of_ble_eq_true rfl⟩, Nat.le_of_ble_eq_true rfl⟩ rfl (by decide +kernel) (fun w6 g4 e5 => ?_)
    refine s_if_ge (pc := 155) (off := 23) 178 (by decide +kernel) (by decide) (fun _ => ?_) (fun _ => ?_)
    · refine S_sub [1, 2, 3, 4, 5, 6, 7, 8, 9, 10, 11, 12, 0] rfl ?_
      exact pX7_under_b178 hr31 a0 a1 a2 a4 a6 a8 a10 a12 a14 a16 a18 a20 s0 g4
    · refine s_aload_n (pc := 158) (k0 := 0) (i := 0) rfl 1 rfl (by decide +kernel) ?_
      refine s_lload (pc := 159) (i := 6) 5 rfl (by decide +kernel) ?_
      refine s_lload (pc := 161) (i := 8) 6 rfl (by decide +kernel) ?_
      refine s_lload (pc := 163) (i := 4) 4 rfl (by decide +kernel) ?_
      refine s_lconst (pc := 165) (n := 1) (v := (1 : Int64)) (by decide) (by decide +kernel) ?_
      refine s_iload_n (pc := 166) (k0 := 1) (i := 1) rfl 2 rfl (by decide +kernel) ?_
      refine s_i2l (pc := 167) (by decide +kernel) ?_
      refine S_gd (fun c7 => ?_)
      refine s_cVv (pc := 168) [.long a6, .long a8, .long a4, .long (1 : Int64), .long a1.toInt64] (tX7_addNew a0 a6 a8 a4 (1 : Int64) a1.toInt64 g4) c7 cw_X7_200 rfl ⟨⟨Nat.le_of_ble_eq_true rfl, Nat.le_of_ble_eq_true rfl⟩, Nat.le_of_ble_eq_true rfl⟩ rfl (by decide +kernel) (fun _ g8 e9 => ?_)
      refine s_lload (pc := 171) (i := 4) 4 rfl (by decide +kernel) ?_
      refine s_lstore (pc := 173) (L' := [(6, .long a4), (21, .int s0), (0, .ref a0), (1, .int a1), (2, .long a2), (4, .long a4), (8, .long a8), (10, .int a10), (12, .long a12), (14, .long a14), (16, .long a16), (18, .long a18), (20, .int a20)]) (i := 6) (by decide) rfl (by decide +kernel) ?_
      refine s_lconst (pc := 175) (n := 1) (v := (1 : Int64)) (by decide) (by decide +kernel) ?_
      refine s_nmJ (fun v10 => ?_)
      refine s_lstore (pc := 176) (L' := [(8, .long v10), (6, .long a4), (21, .int s0), (0, .ref a0), (1, .int a1), (2, .long a2), (4, .long a4), (10, .int a10), (12, .long a12), (14, .long a14), (16, .long a16), (18, .long a18), (20, .int a20)]) (i := 8) (by decide) rfl (by decide +kernel) ?_
      refine S_sub [3, 4, 5, 6, 1, 0, 7, 8, 9, 10, 11, 12, 2] rfl ?_
      exact pX7_under_b178 hr31 a0 a1 a2 a4 a4 v10 a10 a12 a14 a16 a18 a20 s0 g8
theorem pX7_under_b125 {h0 : xH} {r31 : Nat → Int32 → Int64 → Int64 → Int64 → Int64 → Int32 → xH → Option (Unit × xH)} (hr31 : ∀  (a0 : Nat) (a1 : Int32) (a2 : Int64) (a4 : Int64) (a6 : Int64) (a8 : Int64) (a10 : Int32) (g : xH), S emV kX7_under h0 31 [(0, .ref a0), (1, .int a1), (2, .long a2), (4, .long a4), (6, .long a6), (8, .long a8), (10, .int a10)] [] g (r31  a0 a1 a2 a4 a6 a8 a10 g))  (a0 : Nat) (a1 : Int32) (a2 : Int64) (a4 : Int64) (a6 : Int64) (a8 : Int64) (a10 : Int32) (a12 : Int64) (a14 : Int64) (a16 : Int64) (a18 : Int64) (a20 : Int32) (h : xH) : S emV kX7_under h0 125 [(0, .ref a0), (1, .int a1), (2, .long a2), (4, .long a4), (6, .long a6), (8, .long a8), (10, .int a10), (12, .long a12), (14, .long a14), (16, .long a16), (18, .long a18), (20, .int a20)] [] h (fX7_under_b125 r31 a0 a1 a2 a4 a6 a8 a10 a12 a14 a16 a18 a20 h) := by
  unfold fX7_under_b125
  refine s_iconst (pc := 125) (n := 1) (v := (1 : Int32)) (by decide) (by decide +kernel) ?_
  refine s_goto (pc := 126) (off := 4) 130 (by decide +kernel) (by decide) ?_
  exact pX7_under_b130 hr31 (1 : Int32) a0 a1 a2 a4 a6 a8 a10 a12 a14 a16 a18 a20 h
theorem pX7_under_b383 {h0 : xH} {r383 : Nat → Int32 → xH → Option (Unit × xH)} (hr383 : ∀  (a0 : Nat) (a10 : Int32) (g : xH), S emV kX7_under h0 383 [(0, .ref a0), (10, .int a10)] [] g (r383  a0 a10 g))  (a0 : Nat) (a10 : Int32) (h : xH) : S emV kX7_under h0 383 [(0, .ref a0), (10, .int a10)] [] h (fX7_under_b383 r383 a0 a10 h) := by
  unfold fX7_under_b383
  refine s_iload (pc := 383) (i := 10) 1 rfl (by decide +kernel) ?_
  refine s_iconst (pc := 385) (n := 5) (v := (5 : Int32)) (by decide) (by decide +kernel) ?_
  refine s_aload_n (pc := 386) (k0 := 0) (i := 0) rfl 0 rfl (by decide +kernel) ?_
  refine S_gd (fun c1 => ?_)
  refine s_getI (pc := 387) (k := 30) c1 ft_X7_193 rfl (by decide +kernel) ?_
  refine s_imul (pc := 390) (by decide +kernel) ?_
  refine s_icmp_ge (pc := 391) (off := 23) 414 (by decide +kernel) (by decide) (fun _ => ?_) (fun _ => ?_)
  · exact s_vret (pc := 414) rfl (by decide +kernel)
  · refine s_aload_n (pc := 394) (k0 := 0) (i := 0) rfl 0 rfl (by decide +kernel) ?_
    refine s_getR (pc := 395) (k := 28) c1 ft_X7_75 rfl (by decide +kernel) ?_
    refine s_iload (pc := 398) (i := 10) 1 rfl (by decide +kernel) ?_
    refine s_aload_n (pc := 400) (k0 := 0) (i := 0) rfl 0 rfl (by decide +kernel) ?_
    refine s_getR (pc := 401) (k := 29) c1 ft_X7_78 rfl (by decide +kernel) ?_
    refine s_iload (pc := 404) (i := 10) 1 rfl (by decide +kernel) ?_
    refine S_gd (fun c2 => ?_)
    refine S_gd (fun c3 => ?_)
    refine s_lald (pc := 406) c2 c3 (by decide +kernel) ?_
    refine S_gd (fun c4 => ?_)
    refine S_gd (fun c5 => ?_)
    refine s_last (pc := 407) c4 c5 (by decide +kernel) ?_
    refine s_nmH (o := h) rfl (fun g6 e7 => ?_)
    refine s_iinc (pc := 408) (L' := [(10, .int (a10 + (1 : Int32))), (0, .ref a0)]) (i := 10) (n := 1) 1 rfl rfl (by decide) rfl (by decide +kernel) ?_
    refine s_nmI0 (e := a10 + (1 : Int32)) (L := fun v8 => [(10, .int v8), (0, .ref a0)]) (fun v8 => ?_)
    refine s_goto (pc := 411) (off := -28) 383 (by decide +kernel) (by decide) ?_
    refine S_sub [1, 0] rfl ?_
    exact hr383 a0 v8 g6
theorem pX7_under_l383 {h0 : xH}   : ∀ (k : Nat)  (a0 : Nat) (a10 : Int32) (h : xH), S emV kX7_under h0 383 [(0, .ref a0), (10, .int a10)] [] h (fX7_under_l383  k  a0 a10 h) := by
  intro k
  induction k with
  | zero => intros; exact S_none
  | succ k ih => intro  a0 a10 h; exact pX7_under_b383 ih  a0 a10 h
theorem pX7_under_b372 {h0 : xH}    (a0 : Nat) (h : xH) : S emV kX7_under h0 372 [(0, .ref a0)] [] h (fX7_under_b372  a0 h) := by
  unfold fX7_under_b372
  refine s_aload_n (pc := 372) (k0 := 0) (i := 0) rfl 0 rfl (by decide +kernel) ?_
  refine s_aload_n (pc := 373) (k0 := 0) (i := 0) rfl 0 rfl (by decide +kernel) ?_
  refine S_gd (fun c1 => ?_)
  refine s_getI (pc := 374) (k := 30) c1 ft_X7_193 rfl (by decide +kernel) ?_
  refine s_putI (pc := 377) (k := 27) c1 ft_X7_209 (fw_7_27 _ _) rfl rfl (by decide +kernel) ?_
  refine s_nmH (o := h) rfl (fun g2 e3 => ?_)
  refine s_iconst (pc := 380) (n := 0) (v := (0 : Int32)) (by decide) (by decide +kernel) ?_
  refine s_nmI (fun v4 => ?_)
  refine s_istore (pc := 381) (L' := [(10, .int v4), (0, .ref a0)]) (i := 10) (by decide) rfl (by decide +kernel) ?_
  refine S_sub [1, 0] rfl ?_
  exact pX7_under_l383 FU a0 v4 g2
theorem pX7_under_b31 {h0 : xH} {r31 : Nat → Int32 → Int64 → Int64 → Int64 → Int64 → Int32 → xH → Option (Unit × xH)} (hr31 : ∀  (a0 : Nat) (a1 : Int32) (a2 : Int64) (a4 : Int64) (a6 : Int64) (a8 : Int64) (a10 : Int32) (g : xH), S emV kX7_under h0 31 [(0, .ref a0), (1, .int a1), (2, .long a2), (4, .long a4), (6, .long a6), (8, .long a8), (10, .int a10)] [] g (r31  a0 a1 a2 a4 a6 a8 a10 g))  (a0 : Nat) (a1 : Int32) (a2 : Int64) (a4 : Int64) (a6 : Int64) (a8 : Int64) (a10 : Int32) (h : xH) : S emV kX7_under h0 31 [(0, .ref a0), (1, .int a1), (2, .long a2), (4, .long a4), (6, .long a6), (8, .long a8), (10, .int a10)] [] h (fX7_under_b31 r31 a0 a1 a2 a4 a6 a8 a10 h) := by
  unfold fX7_under_b31
  refine s_iload (pc := 31) (i := 10) 6 rfl (by decide +kernel) ?_
  refine s_aload_n (pc := 33) (k0 := 0) (i := 0) rfl 0 rfl (by decide +kernel) ?_
  refine S_gd (fun c1 => ?_)
  refine s_getI (pc := 34) (k := 27) c1 ft_X7_209 rfl (by decide +kernel) ?_
  refine s_icmp_ge (pc := 37) (off := 309) 346 (by decide +kernel) (by decide) (fun _ => ?_) (fun _ => ?_)
  · refine s_lload (pc := 346) (i := 6) 4 rfl (by decide +kernel) ?_
    refine s_lload (pc := 348) (i := 8) 5 rfl (by decide +kernel) ?_
    refine s_lload (pc := 350) (i := 4) 3 rfl (by decide +kernel) ?_
    refine s_lconst (pc := 352) (n := 1) (v := (1 : Int64)) (by decide) (by decide +kernel) ?_
    refine s_cSi (pc := 353) [.long a6, .long a8, .long a4, .long (1 : Int64)] (tX7_lie a6 a8 a4 (1 : Int64) h) cw_X7_189 rfl ⟨⟨Nat.le_of_ble_eq_true rfl, Nat.le_of_ble_eq_true rfl⟩, Nat.le_of_ble_eq_true rfl⟩ rfl (by decide +kernel) (fun w4 g2 e3 => ?_)
    refine s_if_ge (pc := 356) (off := 16) 372 (by decide +kernel) (by decide) (fun _ => ?_) (fun _ => ?_)
    · refine S_sub [0] rfl ?_
      exact pX7_under_b372 a0 g2
    · refine s_aload_n (pc := 359) (k0 := 0) (i := 0) rfl 0 rfl (by decide +kernel) ?_
      refine s_lload (pc := 360) (i := 6) 4 rfl (by decide +kernel) ?_
      refine s_lload (pc := 362) (i := 8) 5 rfl (by decide +kernel) ?_
      refine s_lload (pc := 364) (i := 4) 3 rfl (by decide +kernel) ?_
      refine s_lconst (pc := 366) (n := 1) (v := (1 : Int64)) (by decide) (by decide +kernel) ?_
      refine s_iload_n (pc := 367) (k0 := 1) (i := 1) rfl 1 rfl (by decide +kernel) ?_
      refine s_i2l (pc := 368) (by decide +kernel) ?_
      have c5 := kp e3 c1 (by decide)
      refine s_cVv (pc := 369) [.long a6, .long a8, .long a4, .long (1 : Int64), .long a1.toInt64] (tX7_addNew a0 a6 a8 a4 (1 : Int64) a1.toInt64 g2) c5 cw_X7_200 rfl ⟨⟨Nat.le_of_ble_eq_true rfl, Nat.le_of_ble_eq_true rfl⟩, Nat.le_of_ble_eq_true rfl⟩ rfl (by decide +kernel) (fun _ g6 e7 => ?_)
      refine S_sub [0] rfl ?_
      exact pX7_under_b372 a0 g6
  · refine s_iconst (pc := 40) (n := 5) (v := (5 : Int32)) (by decide) (by decide +kernel) ?_
    refine s_iload (pc := 41) (i := 10) 6 rfl (by decide +kernel) ?_
    refine s_imul (pc := 43) (by decide +kernel) ?_
    refine s_nmI (fun v8 => ?_)
    refine s_istore (pc := 44) (L' := [(11, .int v8), (0, .ref a0), (1, .int a1), (2, .long a2), (4, .long a4), (6, .long a6), (8, .long a8), (10, .int a10)]) (i := 11) (by decide) rfl (by decide +kernel) ?_
    refine s_aload_n (pc := 46) (k0 := 0) (i := 0) rfl 1 rfl (by decide +kernel) ?_
    refine s_getR (pc := 47) (k := 28) c1 ft_X7_75 rfl (by decide +kernel) ?_
    refine s_iload (pc := 50) (i := 11) 0 rfl (by decide +kernel) ?_
    refine S_gd (fun c9 => ?_)
    refine S_gd (fun c10 => ?_)
    refine s_lald (pc := 52) c9 c10 (by decide +kernel) ?_
    refine s_nmJ (fun v11 => ?_)
    refine s_lstore (pc := 53) (L' := [(12, .long v11), (11, .int v8), (0, .ref a0), (1, .int a1), (2, .long a2), (4, .long a4), (6, .long a6), (8, .long a8), (10, .int a10)]) (i := 12) (by decide) rfl (by decide +kernel) ?_
    refine s_aload_n (pc := 55) (k0 := 0) (i := 0) rfl 2 rfl (by decide +kernel) ?_
    refine s_getR (pc := 56) (k := 28) c1 ft_X7_75 rfl (by decide +kernel) ?_
    refine s_iload (pc := 59) (i := 11) 1 rfl (by decide +kernel) ?_
    refine s_iconst (pc := 61) (n := 1) (v := (1 : Int32)) (by decide) (by decide +kernel) ?_
    refine s_iadd (pc := 62) (by decide +kernel) ?_
    refine S_gd (fun c12 => ?_)
    refine s_lald (pc := 63) c9 c12 (by decide +kernel) ?_
    refine s_nmJ (fun v13 => ?_)
    refine s_lstore (pc := 64) (L' := [(14, .long v13), (12, .long v11), (11, .int v8), (0, .ref a0), (1, .int a1), (2, .long a2), (4, .long a4), (6, .long a6), (8, .long a8), (10, .int a10)]) (i := 14) (by decide) rfl (by decide +kernel) ?_
    refine s_aload_n (pc := 66) (k0 := 0) (i := 0) rfl 3 rfl (by decide +kernel) ?_
    refine s_getR (pc := 67) (k := 28) c1 ft_X7_75 rfl (by decide +kernel) ?_
    refine s_iload (pc := 70) (i := 11) 2 rfl (by decide +kernel) ?_
    refine s_iconst (pc := 72) (n := 2) (v := (2 : Int32)) (by decide) (by decide +kernel) ?_
    refine s_iadd (pc := 73) (by decide +kernel) ?_
    refine S_gd (fun c14 => ?_)
    refine s_lald (pc := 74) c9 c14 (by decide +kernel) ?_
    refine s_nmJ (fun v15 => ?_)
    refine s_lstore (pc := 75) (L' := [(16, .long v15), (14, .long v13), (12, .long v11), (11, .int v8), (0, .ref a0), (1, .int a1), (2, .long a2), (4, .long a4), (6, .long a6), (8, .long a8), (10, .int a10)]) (i := 16) (by decide) rfl (by decide +kernel) ?_
    refine s_aload_n (pc := 77) (k0 := 0) (i := 0) rfl 4 rfl (by decide +kernel) ?_
    refine s_getR (pc := 78) (k := 28) c1 ft_X7_75 rfl (by decide +kernel) ?_
    refine s_iload (pc := 81) (i := 11) 3 rfl (by decide +kernel) ?_
    refine s_iconst (pc := 83) (n := 3) (v := (3 : Int32)) (by decide) (by decide +kernel) ?_
    refine s_iadd (pc := 84) (by decide +kernel) ?_
    refine S_gd (fun c16 => ?_)
    refine s_lald (pc := 85) c9 c16 (by decide +kernel) ?_
    refine s_nmJ (fun v17 => ?_)
    refine s_lstore (pc := 86) (L' := [(18, .long v17), (16, .long v15), (14, .long v13), (12, .long v11), (11, .int v8), (0, .ref a0), (1, .int a1), (2, .long a2), (4, .long a4), (6, .long a6), (8, .long a8), (10, .int a10)]) (i := 18) (by decide) rfl (by decide +kernel) ?_
    refine s_aload_n (pc := 88) (k0 := 0) (i := 0) rfl 5 rfl (by decide +kernel) ?_
    refine s_getR (pc := 89) (k := 28) c1 ft_X7_75 rfl (by decide +kernel) ?_
    refine s_iload (pc := 92) (i := 11) 4 rfl (by decide +kernel) ?_
    refine s_iconst (pc := 94) (n := 4) (v := (4 : Int32)) (by decide) (by decide +kernel) ?_
    refine s_iadd (pc := 95) (by decide +kernel) ?_
    refine S_gd (fun c18 => ?_)
    refine s_lald (pc := 96) c9 c18 (by decide +kernel) ?_
    refine s_l2i (pc := 97) (by decide +kernel) ?_
    refine s_nmI (fun v19 => ?_)
    refine s_istore (pc := 98) (L' := [(20, .int v19), (18, .long v17), (16, .long v15), (14, .long v13), (12, .long v11), (11, .int v8), (0, .ref a0), (1, .int a1), (2, .long a2), (4, .long a4), (6, .long a6), (8, .long a8), (10, .int a10)]) (i := 20) (by decide) rfl (by decide +kernel) ?_
    refine s_lload (pc := 100) (i := 16) 2 rfl (by decide +kernel) ?_
    refine s_lload (pc := 102) (i := 18) 1 rfl (by decide +kernel) ?_
    refine s_lload_n (pc := 104) (k0 := 2) (i := 2) rfl 8 rfl (by decide +kernel) ?_
    refine s_lconst (pc := 105) (n := 1) (v := (1 : Int64)) (by decide) (by decide +kernel) ?_
    refine s_cSi (pc := 106) [.long v15, .long v17, .long a2, .long (1 : Int64)] (tX7_lie v15 v17 a2 (1 : Int64) h) cw_X7_189 rfl ⟨⟨Nat.le_of_ble_eq_true rfl, Nat.le_of_ble_eq_true rfl⟩, Nat.le_of_ble_eq_true rfl⟩ rfl (by decide +kernel) (fun w22 g20 e21 => ?_)
    refine s_if_le (pc := 109) (off := 16) 125 (by decide +kernel) (by decide) (fun _ => ?_) (fun _ => ?_)
    · refine S_sub [6, 7, 8, 9, 10, 11, 12, 4, 3, 2, 1, 0] rfl ?_
      exact pX7_under_b125 hr31 a0 a1 a2 a4 a6 a8 a10 v11 v13 v15 v17 v19 g20
    · refine s_lload (pc := 112) (i := 12) 4 rfl (by decide +kernel) ?_
      refine s_lload (pc := 114) (i := 14) 3 rfl (by decide +kernel) ?_
      refine s_lload (pc := 116) (i := 4) 9 rfl (by decide +kernel) ?_
      refine s_lconst (pc := 118) (n := 1) (v := (1 : Int64)) (by decide) (by decide +kernel) ?_
      refine s_cSi (pc := 119) [.long v11, .long v13, .long a4, .long (1 : Int64)] (tX7_lie v11 v13 a4 (1 : Int64) g20) cw_X7_189 rfl ⟨⟨Nat.le_of_ble_eq_true rfl, Nat.le_of_ble_eq_true rfl⟩, Nat.le_of_ble_eq_true rfl⟩ rfl (by decide +kernel) (fun w25 g23 e24 => ?_)
      refine s_if_lt (pc := 122) (off := 7) 129 (by decide +kernel) (by decide) (fun _ => ?_) (fun _ => ?_)
      · refine s_iconst (pc := 129) (n := 0) (v := (0 : Int32)) (by decide) (by decide +kernel) ?_
        refine S_sub [6, 7, 8, 9, 10, 11, 12, 4, 3, 2, 1, 0] rfl ?_
        exact pX7_under_b130 hr31 (0 : Int32) a0 a1 a2 a4 a6 a8 a10 v11 v13 v15 v17 v19 g23
      · refine S_sub [6, 7, 8, 9, 10, 11, 12, 4, 3, 2, 1, 0] rfl ?_
        exact pX7_under_b125 hr31 a0 a1 a2 a4 a6 a8 a10 v11 v13 v15 v17 v19 g23
theorem pX7_under_l31 {h0 : xH}   : ∀ (k : Nat)  (a0 : Nat) (a1 : Int32) (a2 : Int64) (a4 : Int64) (a6 : Int64) (a8 : Int64) (a10 : Int32) (h : xH), S emV kX7_under h0 31 [(0, .ref a0), (1, .int a1), (2, .long a2), (4, .long a4), (6, .long a6), (8, .long a8), (10, .int a10)] [] h (fX7_under_l31  k  a0 a1 a2 a4 a6 a8 a10 h) := by
  intro k
  induction k with
  | zero => intros; exact S_none
  | succ k ih => intro  a0 a1 a2 a4 a6 a8 a10 h; exact pX7_under_b31 ih  a0 a1 a2 a4 a6 a8 a10 h
theorem pX7_under_e    (a0 : Nat) (a1 : Int32) (h : xH) : S emV kX7_under h 0 [(0, .ref a0), (1, .int a1)] [] h (fX7_under  a0 a1 h) := by
  unfold fX7_under
  refine s_aload_n (pc := 0) (k0 := 0) (i := 0) rfl 0 rfl (by decide +kernel) ?_
  refine S_gd (fun c1 => ?_)
  refine s_getR (pc := 1) (k := 20) c1 ft_X7_57 rfl (by decide +kernel) ?_
  refine s_iload_n (pc := 4) (k0 := 1) (i := 1) rfl 1 rfl (by decide +kernel) ?_
  refine S_gd (fun c2 => ?_)
  refine S_gd (fun c3 => ?_)
  refine s_iald (pc := 5) c2 c3 (by decide +kernel) ?_
  refine s_i2l (pc := 6) (by decide +kernel) ?_
  refine s_nmJ (fun v4 => ?_)
  refine s_lstore_n (pc := 7) (L' := [(2, .long v4), (0, .ref a0), (1, .int a1)]) (k0 := 2) (i := 2) rfl (by decide) rfl (by decide +kernel) ?_
  refine s_aload_n (pc := 8) (k0 := 0) (i := 0) rfl 1 rfl (by decide +kernel) ?_
  refine s_getR (pc := 9) (k := 21) c1 ft_X7_60 rfl (by decide +kernel) ?_
  refine s_iload_n (pc := 12) (k0 := 1) (i := 1) rfl 2 rfl (by decide +kernel) ?_
  refine S_gd (fun c5 => ?_)
  refine S_gd (fun c6 => ?_)
  refine s_iald (pc := 13) c5 c6 (by decide +kernel) ?_
  refine s_i2l (pc := 14) (by decide +kernel) ?_
  refine s_nmJ (fun v7 => ?_)
  refine s_lstore (pc := 15) (L' := [(4, .long v7), (2, .long v4), (0, .ref a0), (1, .int a1)]) (i := 4) (by decide) rfl (by decide +kernel) ?_
  refine s_aload_n (pc := 17) (k0 := 0) (i := 0) rfl 2 rfl (by decide +kernel) ?_
  refine s_iconst (pc := 18) (n := 0) (v := (0 : Int32)) (by decide) (by decide +kernel) ?_
  refine s_putI (pc := 19) (k := 30) c1 ft_X7_193 (fw_7_30 _ _) rfl rfl (by decide +kernel) ?_
  refine s_nmH (o := h) rfl (fun g8 e9 => ?_)
  refine s_lload_n (pc := 22) (k0 := 2) (i := 2) rfl 1 rfl (by decide +kernel) ?_
  refine s_lstore (pc := 23) (L' := [(6, .long v4), (4, .long v7), (2, .long v4), (0, .ref a0), (1, .int a1)]) (i := 6) (by decide) rfl (by decide +kernel) ?_
  refine s_lconst (pc := 25) (n := 1) (v := (1 : Int64)) (by decide) (by decide +kernel) ?_
  refine s_nmJ (fun v10 => ?_)
  refine s_lstore (pc := 26) (L' := [(8, .long v10), (6, .long v4), (4, .long v7), (2, .long v4), (0, .ref a0), (1, .int a1)]) (i := 8) (by decide) rfl (by decide +kernel) ?_
  refine s_iconst (pc := 28) (n := 0) (v := (0 : Int32)) (by decide) (by decide +kernel) ?_
  refine s_nmI (fun v11 => ?_)
  refine s_istore (pc := 29) (L' := [(10, .int v11), (8, .long v10), (6, .long v4), (4, .long v7), (2, .long v4), (0, .ref a0), (1, .int a1)]) (i := 10) (by decide) rfl (by decide +kernel) ?_
  refine S_sub [5, 6, 4, 3, 2, 1, 0] rfl ?_
  exact pX7_under_l31 FU a0 a1 v4 v7 v4 v10 v11 g8
theorem tX7_under (a0 : Nat) (a1 : Int32) (h : xH) : Ct yX7_under kX7_under emV [.ref a0, .int a1] h (fX7_under a0 a1 h) := Ct_of (by decide +kernel) rfl rfl rfl (Nat.le_of_ble_eq_true rfl) rfl (pX7_under_e a0 a1 h)
def fX7_addBreak_b93 (r93 : Nat → Int64 → Int64 → Int32 → Int32 → xH → Option (Unit × xH))  (a0 : Nat) (a1 : Int64) (a3 : Int64) (a5 : Int32) (a6 : Int32) (h : xH) : Option (Unit × xH) :=
  if a6 < (((2 : Int32) * a5) + (2 : Int32)) then (
  if kc h a0 = 7 then
  if kc h (hR h a0 32) = 9 then
  if ix ((2 : Int32) * a5) (kl h (hR h a0 32)) then
  lt (sJ h (hR h a0 32) ((2 : Int32) * a5).toNatClampNeg a1) (fun g4 =>
  if kc g4 (hR g4 a0 32) = 9 then
  if ix (((2 : Int32) * a5) + (1 : Int32)) (kl g4 (hR g4 a0 32)) then
  lt (sJ g4 (hR g4 a0 32) (((2 : Int32) * a5) + (1 : Int32)).toNatClampNeg a3) (fun g9 =>
  lt (sI g9 a0 31 ((hI g9 a0 31) + (1 : Int32))) (fun g12 =>
  some ((), g12)))
  else none
  else none)
  else none
  else none
  else none)
  else (
  if kc h a0 = 7 then
  if kc h (hR h a0 32) = 9 then
  if ix (a6 - (2 : Int32)) (kl h (hR h a0 32)) then
  if ix a6 (kl h (hR h a0 32)) then
  lt (sJ h (hR h a0 32) a6.toNatClampNeg (hJ h (hR h a0 32) (a6 - (2 : Int32)).toNatClampNeg)) (fun g18 =>
  lt (a6 + (-1 : Int32)) (fun v20 =>
  r93 a0 a1 a3 a5 v20 g18))
  else none
  else none
  else none
  else none)
def fX7_addBreak_l93  : Nat → Nat → Int64 → Int64 → Int32 → Int32 → xH → Option (Unit × xH)
  | 0 => fun _ _ _ _ _ _ => none
  | k + 1 => fX7_addBreak_b93 (fX7_addBreak_l93  k)
def fX7_addBreak_b83   (a0 : Nat) (a1 : Int64) (a3 : Int64) (a5 : Int32) (h : xH) : Option (Unit × xH) :=
  if kc h a0 = 7 then
  lt (((2 : Int32) * (hI h a0 31)) + (1 : Int32)) (fun v2 =>
  fX7_addBreak_l93 FU a0 a1 a3 a5 v2 h)
  else none
def fX7_addBreak_b47   (a0 : Nat) (a1 : Int64) (a3 : Int64) (a5 : Int32) (h : xH) : Option (Unit × xH) :=
  if a5 ≤ 0 then (
  fX7_addBreak_b83 a0 a1 a3 a5 h)
  else (
  if kc h a0 = 7 then
  if kc h (hR h a0 32) = 9 then
  if ix (((2 : Int32) * a5) - (2 : Int32)) (kl h (hR h a0 32)) then
  if ix (((2 : Int32) * a5) - (1 : Int32)) (kl h (hR h a0 32)) then
  bd (fX7_lie (hJ h (hR h a0 32) (((2 : Int32) * a5) - (2 : Int32)).toNatClampNeg) (hJ h (hR h a0 32) (((2 : Int32) * a5) - (1 : Int32)).toNatClampNeg) a1 a3 h) (fun w7 g5 =>
  if w7 = 0 then (
  some ((), g5))
  else (
  fX7_addBreak_b83 a0 a1 a3 a5 g5))
  else none
  else none
  else none
  else none)
def fX7_addBreak_b6 (r6 : Nat → Int64 → Int64 → Int32 → xH → Option (Unit × xH))  (a0 : Nat) (a1 : Int64) (a3 : Int64) (a5 : Int32) (h : xH) : Option (Unit × xH) :=
  if a5 ≤ 0 then (
  fX7_addBreak_b47 a0 a1 a3 a5 h)
  else (
  if kc h a0 = 7 then
  if kc h (hR h a0 32) = 9 then
  if ix (((2 : Int32) * a5) - (2 : Int32)) (kl h (hR h a0 32)) then
  if ix (((2 : Int32) * a5) - (1 : Int32)) (kl h (hR h a0 32)) then
  bd (fX7_lie (hJ h (hR h a0 32) (((2 : Int32) * a5) - (2 : Int32)).toNatClampNeg) (hJ h (hR h a0 32) (((2 : Int32) * a5) - (1 : Int32)).toNatClampNeg) a1 a3 h) (fun w7 g5 =>
  if w7 ≤ 0 then (
  fX7_addBreak_b47 a0 a1 a3 a5 g5)
  else (
  lt (a5 + (-1 : Int32)) (fun v8 =>
  r6 a0 a1 a3 v8 g5)))
  else none
  else none
  else none
  else none)
def fX7_addBreak_l6  : Nat → Nat → Int64 → Int64 → Int32 → xH → Option (Unit × xH)
  | 0 => fun _ _ _ _ _ => none
  | k + 1 => fX7_addBreak_b6 (fX7_addBreak_l6  k)
def fX7_addBreak   (a0 : Nat) (a1 : Int64) (a3 : Int64) (h : xH) : Option (Unit × xH) :=
  if kc h a0 = 7 then
  lt (hI h a0 31) (fun v2 =>
  fX7_addBreak_l6 FU a0 a1 a3 v2 h)
  else none
theorem pX7_addBreak_b93 {h0 : xH} {r93 : Nat → Int64 → Int64 → Int32 → Int32 → xH → Option (Unit × xH)} (hr93 : ∀  (a0 : Nat) (a1 : Int64) (a3 : Int64) (a5 : Int32) (a6 : Int32) (g : xH), S emV kX7_addBreak h0 93 [(0, .ref a0), (1, .long a1), (3, .long a3), (5, .int a5), (6, .int a6)] [] g (r93  a0 a1 a3 a5 a6 g))  (a0 : Nat) (a1 : Int64) (a3 : Int64) (a5 : Int32) (a6 : Int32) (h : xH) : S emV kX7_addBreak h0 93 [(0, .ref a0), (1, .long a1), (3, .long a3), (5, .int a5), (6, .int a6)] [] h (fX7_addBreak_b93 r93 a0 a1 a3 a5 a6 h) := by
  unfold fX7_addBreak_b93
  refine s_iload (pc := 93) (i := 6) 4 rfl (by decide +kernel) ?_
  refine s_iconst (pc := 95) (n := 2) (v := (2 : Int32)) (by decide) (by decide +kernel) ?_
  refine s_iload (pc := 96) (i := 5) 3 rfl (by decide +kernel) ?_
  refine s_imul (pc := 98) (by decide +kernel) ?_
  refine s_iconst (pc := 99) (n := 2) (v := (2 : Int32)) (by decide) (by decide +kernel) ?_
  refine s_iadd (pc := 100) (by decide +kernel) ?_
  refine s_icmp_lt (pc := 101) (off := 25) 126 (by decide +kernel) (by decide) (fun _ => ?_) (fun _ => ?_)
  · refine s_aload_n (pc := 126) (k0 := 0) (i := 0) rfl 0 rfl (by decide +kernel) ?_
    refine S_gd (fun c1 => ?_)
    refine s_getR (pc := 127) (k := 32) c1 ft_X7_81 rfl (by decide +kernel) ?_
    refine s_iconst (pc := 130) (n := 2) (v := (2 : Int32)) (by decide) (by decide +kernel) ?_
    refine s_iload (pc := 131) (i := 5) 3 rfl (by decide +kernel) ?_
    refine s_imul (pc := 133) (by decide +kernel) ?_
    refine s_lload_n (pc := 134) (k0 := 1) (i := 1) rfl 1 rfl (by decide +kernel) ?_
    refine S_gd (fun c2 => ?_)
    refine S_gd (fun c3 => ?_)
    refine s_last (pc := 135) c2 c3 (by decide +kernel) ?_
    refine s_nmH (o := h) rfl (fun g4 e5 => ?_)
    refine s_aload_n (pc := 136) (k0 := 0) (i := 0) rfl 0 rfl (by decide +kernel) ?_
    have c6 := kp e5 c1 (by decide)
    refine s_getR (pc := 137) (k := 32) c6 ft_X7_81 rfl (by decide +kernel) ?_
    refine s_iconst (pc := 140) (n := 2) (v := (2 : Int32)) (by decide) (by decide +kernel) ?_
    refine s_iload (pc := 141) (i := 5) 3 rfl (by decide +kernel) ?_
    refine s_imul (pc := 143) (by decide +kernel) ?_
    refine s_iconst (pc := 144) (n := 1) (v := (1 : Int32)) (by decide) (by decide +kernel) ?_
    refine s_iadd (pc := 145) (by decide +kernel) ?_
    refine s_lload_n (pc := 146) (k0 := 3) (i := 3) rfl 2 rfl (by decide +kernel) ?_
    refine S_gd (fun c7 => ?_)
    refine S_gd (fun c8 => ?_)
    refine s_last (pc := 147) c7 c8 (by decide +kernel) ?_
    refine s_nmH (o := g4) rfl (fun g9 e10 => ?_)
    refine s_aload_n (pc := 148) (k0 := 0) (i := 0) rfl 0 rfl (by decide +kernel) ?_
    refine s_dup_a (pc := 149) (by decide +kernel) ?_
    have c11 := kp e10 c6 (by decide)
    refine s_getI (pc := 150) (k := 31) c11 ft_X7_216 rfl (by decide +kernel) ?_
    refine s_iconst (pc := 153) (n := 1) (v := (1 : Int32)) (by decide) (by decide +kernel) ?_
    refine s_iadd (pc := 154) (by decide +kernel) ?_
    refine s_putI (pc := 155) (k := 31) c11 ft_X7_216 (fw_7_31 _ _) rfl rfl (by decide +kernel) ?_
    refine s_nmH (o := g9) rfl (fun g12 e13 => ?_)
    exact s_vret (pc := 158) rfl (by decide +kernel)
  · refine s_aload_n (pc := 104) (k0 := 0) (i := 0) rfl 0 rfl (by decide +kernel) ?_
    refine S_gd (fun c14 => ?_)
    refine s_getR (pc := 105) (k := 32) c14 ft_X7_81 rfl (by decide +kernel) ?_
    refine s_iload (pc := 108) (i := 6) 4 rfl (by decide +kernel) ?_
    refine s_aload_n (pc := 110) (k0 := 0) (i := 0) rfl 0 rfl (by decide +kernel) ?_
    refine s_getR (pc := 111) (k := 32) c14 ft_X7_81 rfl (by decide +kernel) ?_
    refine s_iload (pc := 114) (i := 6) 4 rfl (by decide +kernel) ?_
    refine s_iconst (pc := 116) (n := 2) (v := (2 : Int32)) (by decide) (by decide +kernel) ?_
    refine s_isub (pc := 117) (by decide +kernel) ?_
    refine S_gd (fun c15 => ?_)
    refine S_gd (fun c16 => ?_)
    refine s_lald (pc := 118) c15 c16 (by decide +kernel) ?_
    refine S_gd (fun c17 => ?_)
    refine s_last (pc := 119) c15 c17 (by decide +kernel) ?_
    refine s_nmH (o := h) rfl (fun g18 e19 => ?_)
    refine s_iinc (pc := 120) (L' := [(6, .int (a6 + (-1 : Int32))), (0, .ref a0), (1, .long a1), (3, .long a3), (5, .int a5)]) (i := 6) (n := -1) 4 rfl rfl (by decide) rfl (by decide +kernel) ?_
    refine s_nmI0 (e := a6 + (-1 : Int32)) (L := fun v20 => [(6, .int v20), (0, .ref a0), (1, .long a1), (3, .long a3), (5, .int a5)]) (fun v20 => ?_)
    refine s_goto (pc := 123) (off := -30) 93 (by decide +kernel) (by decide) ?_
    refine S_sub [1, 2, 3, 4, 0] rfl ?_
    exact hr93 a0 a1 a3 a5 v20 g18
theorem pX7_addBreak_l93 {h0 : xH}   : ∀ (k : Nat)  (a0 : Nat) (a1 : Int64) (a3 : Int64) (a5 : Int32) (a6 : Int32) (h : xH), S emV kX7_addBreak h0 93 [(0, .ref a0), (1, .long a1), (3, .long a3), (5, .int a5), (6, .int a6)] [] h (fX7_addBreak_l93  k  a0 a1 a3 a5 a6 h) := by
  intro k
  induction k with
  | zero => intros; exact S_none
  | succ k ih => intro  a0 a1 a3 a5 a6 h; exact pX7_addBreak_b93 ih  a0 a1 a3 a5 a6 h
theorem pX7_addBreak_b83 {h0 : xH}    (a0 : Nat) (a1 : Int64) (a3 : Int64) (a5 : Int32) (h : xH) : S emV kX7_addBreak h0 83 [(0, .ref a0), (1, .long a1), (3, .long a3), (5, .int a5)] [] h (fX7_addBreak_b83  a0 a1 a3 a5 h) := by
  unfold fX7_addBreak_b83
  refine s_iconst (pc := 83) (n := 2) (v := (2 : Int32)) (by decide) (by decide +kernel) ?_
  refine s_aload_n (pc := 84) (k0 := 0) (i := 0) rfl 0 rfl (by decide +kernel) ?_
  refine S_gd (fun c1 => ?_)
  refine s_getI (pc := 85) (k := 31) c1 ft_X7_216 rfl (by decide +kernel) ?_
  refine s_imul (pc := 88) (by decide +kernel) ?_
  refine s_iconst (pc := 89) (n := 1) (v := (1 : Int32)) (by decide) (by decide +kernel) ?_
  refine s_iadd (pc := 90) (by decide +kernel) ?_
  refine s_nmI (fun v2 => ?_)
  refine s_istore (pc := 91) (L' := [(6, .int v2), (0, .ref a0), (1, .long a1), (3, .long a3), (5, .int a5)]) (i := 6) (by decide) rfl (by decide +kernel) ?_
  refine S_sub [1, 2, 3, 4, 0] rfl ?_
  exact pX7_addBreak_l93 FU a0 a1 a3 a5 v2 h
theorem pX7_addBreak_b47 {h0 : xH}    (a0 : Nat) (a1 : Int64) (a3 : Int64) (a5 : Int32) (h : xH) : S emV kX7_addBreak h0 47 [(0, .ref a0), (1, .long a1), (3, .long a3), (5, .int a5)] [] h (fX7_addBreak_b47  a0 a1 a3 a5 h) := by
  unfold fX7_addBreak_b47
  refine s_iload (pc := 47) (i := 5) 3 rfl (by decide +kernel) ?_
  refine s_if_le (pc := 49) (off := 34) 83 (by decide +kernel) (by decide) (fun _ => ?_) (fun _ => ?_)
  · exact pX7_addBreak_b83 a0 a1 a3 a5 h
  · refine s_aload_n (pc := 52) (k0 := 0) (i := 0) rfl 0 rfl (by decide +kernel) ?_
    refine S_gd (fun c1 => ?_)
    refine s_getR (pc := 53) (k := 32) c1 ft_X7_81 rfl (by decide +kernel) ?_
    refine s_iconst (pc := 56) (n := 2) (v := (2 : Int32)) (by decide) (by decide +kernel) ?_
    refine s_iload (pc := 57) (i := 5) 3 rfl (by decide +kernel) ?_
    refine s_imul (pc := 59) (by decide +kernel) ?_
    refine s_iconst (pc := 60) (n := 2) (v := (2 : Int32)) (by decide) (by decide +kernel) ?_
    refine s_isub (pc := 61) (by decide +kernel) ?_
    refine S_gd (fun c2 => ?_)
    refine S_gd (fun c3 => ?_)
    refine s_lald (pc := 62) c2 c3 (by decide +kernel) ?_
    refine s_aload_n (pc := 63) (k0 := 0) (i := 0) rfl 0 rfl (by decide +kernel) ?_
    refine s_getR (pc := 64) (k := 32) c1 ft_X7_81 rfl (by decide +kernel) ?_
    refine s_iconst (pc := 67) (n := 2) (v := (2 : Int32)) (by decide) (by decide +kernel) ?_
    refine s_iload (pc := 68) (i := 5) 3 rfl (by decide +kernel) ?_
    refine s_imul (pc := 70) (by decide +kernel) ?_
    refine s_iconst (pc := 71) (n := 1) (v := (1 : Int32)) (by decide) (by decide +kernel) ?_
    refine s_isub (pc := 72) (by decide +kernel) ?_
    refine S_gd (fun c4 => ?_)
    refine s_lald (pc := 73) c2 c4 (by decide +kernel) ?_
    refine s_lload_n (pc := 74) (k0 := 1) (i := 1) rfl 1 rfl (by decide +kernel) ?_
    refine s_lload_n (pc := 75) (k0 := 3) (i := 3) rfl 2 rfl (by decide +kernel) ?_
    refine s_cSi (pc := 76) [.long (hJ h (hR h a0 32) (((2 : Int32) * a5) - (2 : Int32)).toNatClampNeg), .long (hJ h (hR h a0 32) (((2 : Int32) * a5) - (1 : Int32)).toNatClampNeg), .long a1, .long a3] (tX7_lie (hJ h (hR h a0 32) (((2 : Int32) * a5) - (2 : Int32)).toNatClampNeg) (hJ h (hR h a0 32) (((2 : Int32) * a5) - (1 : Int32)).toNatClampNeg) a1 a3 h) cw_X7_189 rfl ⟨⟨Nat.le_of_ble_eq_true rfl, Nat.le_of_ble_eq_true rfl⟩, Nat.le_of_ble_eq_true rfl⟩ rfl (by decide +kernel) (fun w7 g5 e6 => ?_)
    refine s_if_ne (pc := 79) (off := 4) 83 (by decide +kernel) (by decide) (fun _ => ?_) (fun _ => ?_)
    · exact s_vret (pc := 82) rfl (by decide +kernel)
    · exact pX7_addBreak_b83 a0 a1 a3 a5 g5
theorem pX7_addBreak_b6 {h0 : xH} {r6 : Nat → Int64 → Int64 → Int32 → xH → Option (Unit × xH)} (hr6 : ∀  (a0 : Nat) (a1 : Int64) (a3 : Int64) (a5 : Int32) (g : xH), S emV kX7_addBreak h0 6 [(0, .ref a0), (1, .long a1), (3, .long a3), (5, .int a5)] [] g (r6  a0 a1 a3 a5 g))  (a0 : Nat) (a1 : Int64) (a3 : Int64) (a5 : Int32) (h : xH) : S emV kX7_addBreak h0 6 [(0, .ref a0), (1, .long a1), (3, .long a3), (5, .int a5)] [] h (fX7_addBreak_b6 r6 a0 a1 a3 a5 h) := by
  unfold fX7_addBreak_b6
  refine s_iload (pc := 6) (i := 5) 3 rfl (by decide +kernel) ?_
  refine s_if_le (pc := 8) (off := 39) 47 (by decide +kernel) (by decide) (fun _ => ?_) (fun _ => ?_)
  · exact pX7_addBreak_b47 a0 a1 a3 a5 h
  · refine s_aload_n (pc := 11) (k0 := 0) (i := 0) rfl 0 rfl (by decide +kernel) ?_
    refine S_gd (fun c1 => ?_)
    refine s_getR (pc := 12) (k := 32) c1 ft_X7_81 rfl (by decide +kernel) ?_
    refine s_iconst (pc := 15) (n := 2) (v := (2 : Int32)) (by decide) (by decide +kernel) ?_
    refine s_iload (pc := 16) (i := 5) 3 rfl (by decide +kernel) ?_
    refine s_imul (pc := 18) (by decide +kernel) ?_
    refine s_iconst (pc := 19) (n := 2) (v := (2 : Int32)) (by decide) (by decide +kernel) ?_
    refine s_isub (pc := 20) (by decide +kernel) ?_
    refine S_gd (fun c2 => ?_)
    refine S_gd (fun c3 => ?_)
    refine s_lald (pc := 21) c2 c3 (by decide +kernel) ?_
    refine s_aload_n (pc := 22) (k0 := 0) (i := 0) rfl 0 rfl (by decide +kernel) ?_
    refine s_getR (pc := 23) (k := 32) c1 ft_X7_81 rfl (by decide +kernel) ?_
    refine s_iconst (pc := 26) (n := 2) (v := (2 : Int32)) (by decide) (by decide +kernel) ?_
    refine s_iload (pc := 27) (i := 5) 3 rfl (by decide +kernel) ?_
    refine s_imul (pc := 29) (by decide +kernel) ?_
    refine s_iconst (pc := 30) (n := 1) (v := (1 : Int32)) (by decide) (by decide +kernel) ?_
    refine s_isub (pc := 31) (by decide +kernel) ?_
    refine S_gd (fun c4 => ?_)
    refine s_lald (pc := 32) c2 c4 (by decide +kernel) ?_
    refine s_lload_n (pc := 33) (k0 := 1) (i := 1) rfl 1 rfl (by decide +kernel) ?_
    refine s_lload_n (pc := 34) (k0 := 3) (i := 3) rfl 2 rfl (by decide +kernel) ?_
    refine s_cSi (pc := 35) [.long (hJ h (hR h a0 32) (((2 : Int32) * a5) - (2 : Int32)).toNatClampNeg), .long (hJ h (hR h a0 32) (((2 : Int32) * a5) - (1 : Int32)).toNatClampNeg), .long a1, .long a3] (tX7_lie (hJ h (hR h a0 32) (((2 : Int32) * a5) - (2 : Int32)).toNatClampNeg) (hJ h (hR h a0 32) (((2 : Int32) * a5) - (1 : Int32)).toNatClampNeg) a1 a3 h) cw_X7_189 rfl ⟨⟨Nat.le_of_ble_eq_true rfl, Nat.le_of_ble_eq_true rfl⟩, Nat.le_of_ble_eq_true rfl⟩ rfl (by decide +kernel) (fun w7 g5 e6 => ?_)
    refine s_if_le (pc := 38) (off := 9) 47 (by decide +kernel) (by decide) (fun _ => ?_) (fun _ => ?_)
    · exact pX7_addBreak_b47 a0 a1 a3 a5 g5
    · refine s_iinc (pc := 41) (L' := [(5, .int (a5 + (-1 : Int32))), (0, .ref a0), (1, .long a1), (3, .long a3)]) (i := 5) (n := -1) 3 rfl rfl (by decide) rfl (by decide +kernel) ?_
      refine s_nmI0 (e := a5 + (-1 : Int32)) (L := fun v8 => [(5, .int v8), (0, .ref a0), (1, .long a1), (3, .long a3)]) (fun v8 => ?_)
      refine s_goto (pc := 44) (off := -38) 6 (by decide +kernel) (by decide) ?_
      refine S_sub [1, 2, 3, 0] rfl ?_
      exact hr6 a0 a1 a3 v8 g5
theorem pX7_addBreak_l6 {h0 : xH}   : ∀ (k : Nat)  (a0 : Nat) (a1 : Int64) (a3 : Int64) (a5 : Int32) (h : xH), S emV kX7_addBreak h0 6 [(0, .ref a0), (1, .long a1), (3, .long a3), (5, .int a5)] [] h (fX7_addBreak_l6  k  a0 a1 a3 a5 h) := by
  intro k
  induction k with
  | zero => intros; exact S_none
  | succ k ih => intro  a0 a1 a3 a5 h; exact pX7_addBreak_b6 ih  a0 a1 a3 a5 h
theorem pX7_addBreak_e    (a0 : Nat) (a1 : Int64) (a3 : Int64) (h : xH) : S emV kX7_addBreak h 0 [(0, .ref a0), (1, .long a1), (3, .long a3)] [] h (fX7_addBreak  a0 a1 a3 h) := by
  unfold fX7_addBreak
  refine s_aload_n (pc := 0) (k0 := 0) (i := 0) rfl 0 rfl (by decide +kernel) ?_
  refine S_gd (fun c1 => ?_)
  refine s_getI (pc := 1) (k := 31) c1 ft_X7_216 rfl (by decide +kernel) ?_
  refine s_nmI (fun v2 => ?_)
  refine s_istore (pc := 4) (L' := [(5, .int v2), (0, .ref a0), (1, .long a1), (3, .long a3)]) (i := 5) (by decide) rfl (by decide +kernel) ?_
  refine S_sub [1, 2, 3, 0] rfl ?_
  exact pX7_addBreak_l6 FU a0 a1 a3 v2 h
theorem tX7_addBreak (a0 : Nat) (a1 : Int64) (a3 : Int64) (h : xH) : Ct yX7_addBreak kX7_addBreak emV [.ref a0, .long a1, .long a3] h (fX7_addBreak a0 a1 a3 h) := Ct_of (by decide +kernel) rfl rfl rfl (Nat.le_of_ble_eq_true rfl) rfl (pX7_addBreak_e a0 a1 a3 h)
def fX7_layBreaks_b104 (r69 : Nat → Int32 → xH → Option (Unit × xH))  (a0 : Nat) (a1 : Int32) (h : xH) : Option (Unit × xH) :=
  lt (a1 + (1 : Int32)) (fun v1 =>
  r69 a0 v1 h)
def fX7_layBreaks_b69 (r69 : Nat → Int32 → xH → Option (Unit × xH))  (a0 : Nat) (a1 : Int32) (h : xH) : Option (Unit × xH) :=
  if kc h a0 = 7 then
  if (hI h a0 19) ≤ a1 then (
  some ((), h))
  else (
  if kc h (hR h a0 20) = 8 then
  if ix a1 (kl h (hR h a0 20)) then
  if kc h (hR h a0 21) = 8 then
  if ix a1 (kl h (hR h a0 21)) then
  if (hI h (hR h a0 20) a1.toNatClampNeg) = (hI h (hR h a0 21) a1.toNatClampNeg) then (
  bd (fX7_addBreak a0 ((hI h (hR h a0 20) a1.toNatClampNeg).toInt64) (1 : Int64) h) (fun _ g6 =>
  fX7_layBreaks_b104 r69 a0 a1 g6))
  else (
  fX7_layBreaks_b104 r69 a0 a1 h)
  else none
  else none
  else none
  else none)
  else none
def fX7_layBreaks_l69  : Nat → Nat → Int32 → xH → Option (Unit × xH)
  | 0 => fun _ _ _ => none
  | k + 1 => fX7_layBreaks_b69 (fX7_layBreaks_l69  k)
def fX7_layBreaks_b7 (r7 : Nat → Int32 → xH → Option (Unit × xH))  (a0 : Nat) (a1 : Int32) (h : xH) : Option (Unit × xH) :=
  if kc h a0 = 7 then
  if (hI h a0 27) ≤ a1 then (
  lt (0 : Int32) (fun v2 =>
  fX7_layBreaks_l69 FU a0 v2 h))
  else (
  if kc h (hR h a0 28) = 9 then
  if ix ((5 : Int32) * a1) (kl h (hR h a0 28)) then
  if ix (((5 : Int32) * a1) + (1 : Int32)) (kl h (hR h a0 28)) then
  bd (fX7_addBreak a0 (hJ h (hR h a0 28) ((5 : Int32) * a1).toNatClampNeg) (hJ h (hR h a0 28) (((5 : Int32) * a1) + (1 : Int32)).toNatClampNeg) h) (fun _ g6 =>
  if kc g6 (hR g6 a0 28) = 9 then
  if ix (((5 : Int32) * a1) + (2 : Int32)) (kl g6 (hR g6 a0 28)) then
  if ix (((5 : Int32) * a1) + (3 : Int32)) (kl g6 (hR g6 a0 28)) then
  bd (fX7_addBreak a0 (hJ g6 (hR g6 a0 28) (((5 : Int32) * a1) + (2 : Int32)).toNatClampNeg) (hJ g6 (hR g6 a0 28) (((5 : Int32) * a1) + (3 : Int32)).toNatClampNeg) g6) (fun _ g12 =>
  lt (a1 + (1 : Int32)) (fun v14 =>
  r7 a0 v14 g12))
  else none
  else none
  else none)
  else none
  else none
  else none)
  else none
def fX7_layBreaks_l7  : Nat → Nat → Int32 → xH → Option (Unit × xH)
  | 0 => fun _ _ _ => none
  | k + 1 => fX7_layBreaks_b7 (fX7_layBreaks_l7  k)
def fX7_layBreaks   (a0 : Nat) (h : xH) : Option (Unit × xH) :=
  if kc h a0 = 7 then
  lt (sI h a0 31 (0 : Int32)) (fun g2 =>
  lt (0 : Int32) (fun v4 =>
  fX7_layBreaks_l7 FU a0 v4 g2))
  else none
theorem pX7_layBreaks_b104 {h0 : xH} {r69 : Nat → Int32 → xH → Option (Unit × xH)} (hr69 : ∀  (a0 : Nat) (a1 : Int32) (g : xH), S emV kX7_layBreaks h0 69 [(0, .ref a0), (1, .int a1)] [] g (r69  a0 a1 g))  (a0 : Nat) (a1 : Int32) (h : xH) : S emV kX7_layBreaks h0 104 [(0, .ref a0), (1, .int a1)] [] h (fX7_layBreaks_b104 r69 a0 a1 h) := by
  unfold fX7_layBreaks_b104
  refine s_iinc (pc := 104) (L' := [(1, .int (a1 + (1 : Int32))), (0, .ref a0)]) (i := 1) (n := 1) 1 rfl rfl (by decide) rfl (by decide +kernel) ?_
  refine s_nmI0 (e := a1 + (1 : Int32)) (L := fun v1 => [(1, .int v1), (0, .ref a0)]) (fun v1 => ?_)
  refine s_goto (pc := 107) (off := -38) 69 (by decide +kernel) (by decide) ?_
  refine S_sub [1, 0] rfl ?_
  exact hr69 a0 v1 h
theorem pX7_layBreaks_b69 {h0 : xH} {r69 : Nat → Int32 → xH → Option (Unit × xH)} (hr69 : ∀  (a0 : Nat) (a1 : Int32) (g : xH), S emV kX7_layBreaks h0 69 [(0, .ref a0), (1, .int a1)] [] g (r69  a0 a1 g))  (a0 : Nat) (a1 : Int32) (h : xH) : S emV kX7_layBreaks h0 69 [(0, .ref a0), (1, .int a1)] [] h (fX7_layBreaks_b69 r69 a0 a1 h) := by
  unfold fX7_layBreaks_b69
  refine s_iload_n (pc := 69) (k0 := 1) (i := 1) rfl 1 rfl (by decide +kernel) ?_
  refine s_aload_n (pc := 70) (k0 := 0) (i := 0) rfl 0 rfl (by decide +kernel) ?_
  refine S_gd (fun c1 => ?_)
  refine s_getI (pc := 71) (k := 19) c1 ft_X7_158 rfl (by decide +kernel) ?_
  refine s_icmp_ge (pc := 74) (off := 36) 110 (by decide +kernel) (by decide) (fun _ => ?_) (fun _ => ?_)
  · exact s_vret (pc := 110) rfl (by decide +kernel)
  · refine s_aload_n (pc := 77) (k0 := 0) (i := 0) rfl 0 rfl (by decide +kernel) ?_
    refine s_getR (pc := 78) (k := 20) c1 ft_X7_57 rfl (by decide +kernel) ?_
    refine s_iload_n (pc := 81) (k0 := 1) (i := 1) rfl 1 rfl (by decide +kernel) ?_
    refine S_gd (fun c2 => ?_)
    refine S_gd (fun c3 => ?_)
    refine s_iald (pc := 82) c2 c3 (by decide +kernel) ?_
    refine s_aload_n (pc := 83) (k0 := 0) (i := 0) rfl 0 rfl (by decide +kernel) ?_
    refine s_getR (pc := 84) (k := 21) c1 ft_X7_60 rfl (by decide +kernel) ?_
    refine s_iload_n (pc := 87) (k0 := 1) (i := 1) rfl 1 rfl (by decide +kernel) ?_
    refine S_gd (fun c4 => ?_)
    refine S_gd (fun c5 => ?_)
    refine s_iald (pc := 88) c4 c5 (by decide +kernel) ?_
    refine s_icmp_ne (pc := 89) (off := 15) 104 (by decide +kernel) (by decide) (fun _ => ?_) (fun _ => ?_)
    · refine s_aload_n (pc := 92) (k0 := 0) (i := 0) rfl 0 rfl (by decide +kernel) ?_
      refine s_aload_n (pc := 93) (k0 := 0) (i := 0) rfl 0 rfl (by decide +kernel) ?_
      refine s_getR (pc := 94) (k := 20) c1 ft_X7_57 rfl (by decide +kernel) ?_
      refine s_iload_n (pc := 97) (k0 := 1) (i := 1) rfl 1 rfl (by decide +kernel) ?_
      refine s_iald (pc := 98) c2 c3 (by decide +kernel) ?_
      refine s_i2l (pc := 99) (by decide +kernel) ?_
      refine s_lconst (pc := 100) (n := 1) (v := (1 : Int64)) (by decide) (by decide +kernel) ?_
      refine s_cVv (pc := 101) [.long ((hI h (hR h a0 20) a1.toNatClampNeg).toInt64), .long (1 : Int64)] (tX7_addBreak a0 ((hI h (hR h a0 20) a1.toNatClampNeg).toInt64) (1 : Int64) h) c1 cw_X7_219 rfl ⟨⟨Nat.le_of_ble_eq_true rfl, Nat.le_of_ble_eq_true rfl⟩, Nat.le_of_ble_eq_true rfl⟩ rfl (by decide +kernel) (fun _ g6 e7 => ?_)
      exact pX7_layBreaks_b104 hr69 a0 a1 g6
    · exact pX7_layBreaks_b104 hr69 a0 a1 h
theorem pX7_layBreaks_l69 {h0 : xH}   : ∀ (k : Nat)  (a0 : Nat) (a1 : Int32) (h : xH), S emV kX7_layBreaks h0 69 [(0, .ref a0), (1, .int a1)] [] h (fX7_layBreaks_l69  k  a0 a1 h) := by
  intro k
  induction k with
  | zero => intros; exact S_none
  | succ k ih => intro  a0 a1 h; exact pX7_layBreaks_b69 ih  a0 a1 h
theorem pX7_layBreaks_b7 {h0 : xH} {r7 : Nat → Int32 → xH → Option (Unit × xH)} (hr7 : ∀  (a0 : Nat) (a1 : Int32) (g : xH), S emV kX7_layBreaks h0 7 [(0, .ref a0), (1, .int a1)] [] g (r7  a0 a1 g))  (a0 : Nat) (a1 : Int32) (h : xH) : S emV kX7_layBreaks h0 7 [(0, .ref a0), (1, .int a1)] [] h (fX7_layBreaks_b7 r7 a0 a1 h) := by
  unfold fX7_layBreaks_b7
  refine s_iload_n (pc := 7) (k0 := 1) (i := 1) rfl 1 rfl (by decide +kernel) ?_
  refine s_aload_n (pc := 8) (k0 := 0) (i := 0) rfl 0 rfl (by decide +kernel) ?_
  refine S_gd (fun c1 => ?_)
  refine s_getI (pc := 9) (k := 27) c1 ft_X7_209 rfl (by decide +kernel) ?_
  refine s_icmp_ge (pc := 12) (off := 55) 67 (by decide +kernel) (by decide) (fun _ => ?_) (fun _ => ?_)
  · refine s_iconst (pc := 67) (n := 0) (v := (0 : Int32)) (by decide) (by decide +kernel) ?_
    refine s_nmI (fun v2 => ?_)
    refine s_istore_n (pc := 68) (L' := [(1, .int v2), (0, .ref a0)]) (k0 := 1) (i := 1) rfl (by decide) rfl (by decide +kernel) ?_
    refine S_sub [1, 0] rfl ?_
    exact pX7_layBreaks_l69 FU a0 v2 h
  · refine s_aload_n (pc := 15) (k0 := 0) (i := 0) rfl 0 rfl (by decide +kernel) ?_
    refine s_aload_n (pc := 16) (k0 := 0) (i := 0) rfl 0 rfl (by decide +kernel) ?_
    refine s_getR (pc := 17) (k := 28) c1 ft_X7_75 rfl (by decide +kernel) ?_
    refine s_iconst (pc := 20) (n := 5) (v := (5 : Int32)) (by decide) (by decide +kernel) ?_
    refine s_iload_n (pc := 21) (k0 := 1) (i := 1) rfl 1 rfl (by decide +kernel) ?_
    refine s_imul (pc := 22) (by decide +kernel) ?_
    refine S_gd (fun c3 => ?_)
    refine S_gd (fun c4 => ?_)
    refine s_lald (pc := 23) c3 c4 (by decide +kernel) ?_
    refine s_aload_n (pc := 24) (k0 := 0) (i := 0) rfl 0 rfl (by decide +kernel) ?_
    refine s_getR (pc := 25) (k := 28) c1 ft_X7_75 rfl (by decide +kernel) ?_
    refine s_iconst (pc := 28) (n := 5) (v := (5 : Int32)) (by decide) (by decide +kernel) ?_
    refine s_iload_n (pc := 29) (k0 := 1) (i := 1) rfl 1 rfl (by decide +kernel) ?_
    refine s_imul (pc := 30) (by decide +kernel) ?_
    refine s_iconst (pc := 31) (n := 1) (v := (1 : Int32)) (by decide) (by decide +kernel) ?_
    refine s_iadd (pc := 32) (by decide +kernel) ?_
    refine S_gd (fun c5 => ?_)
    refine s_lald (pc := 33) c3 c5 (by decide +kernel) ?_
    refine s_cVv (pc := 34) [.long (hJ h (hR h a0 28) ((5 : Int32) * a1).toNatClampNeg), .long (hJ h (hR h a0 28) (((5 : Int32) * a1) + (1 : Int32)).toNatClampNeg)] (tX7_addBreak a0 (hJ h (hR h a0 28) ((5 : Int32) * a1).toNatClampNeg) (hJ h (hR h a0 28) (((5 : Int32) * a1) + (1 : Int32)).toNatClampNeg) h) c1 cw_X7_219 rfl ⟨⟨Nat.le_of_ble_eq_true rfl, Nat.le_of_ble_eq_true rfl⟩, Nat.le_of_ble_eq_true rfl⟩ rfl (by decide +kernel) (fun _ g6 e7 => ?_)
    refine s_aload_n (pc := 37) (k0 := 0) (i := 0) rfl 0 rfl (by decide +kernel) ?_
    refine s_aload_n (pc := 38) (k0 := 0) (i := 0) rfl 0 rfl (by decide +kernel) ?_
    have c8 := kp e7 c1 (by decide)
    refine s_getR (pc := 39) (k := 28) c8 ft_X7_75 rfl (by decide +kernel) ?_
    refine s_iconst (pc := 42) (n := 5) (v := (5 : Int32)) (by decide) (by decide +kernel) ?_
    refine s_iload_n (pc := 43) (k0 := 1) (i := 1) rfl 1 rfl (by decide +kernel) ?_
    refine s_imul (pc := 44) (by decide +kernel) ?_
    refine s_iconst (pc := 45) (n := 2) (v := (2 : Int32)) (by decide) (by decide +kernel) ?_
    refine s_iadd (pc := 46) (by decide +kernel) ?_
    refine S_gd (fun c9 => ?_)
    refine S_gd (fun c10 => ?_)
    refine s_lald (pc := 47) c9 c10 (by decide +kernel) ?_
    refine s_aload_n (pc := 48) (k0 := 0) (i := 0) rfl 0 rfl (by decide +kernel) ?_
    refine s_getR (pc := 49) (k := 28) c8 ft_X7_75 rfl (by decide +kernel) ?_
    refine s_iconst (pc := 52) (n := 5) (v := (5 : Int32)) (by decide) (by decide +kernel) ?_
    refine s_iload_n (pc := 53) (k0 := 1) (i := 1) rfl 1 rfl (by decide +kernel) ?_
    refine s_imul (pc := 54) (by decide +kernel) ?_
    refine s_iconst (pc := 55) (n := 3) (v := (3 : Int32)) (by decide) (by decide +kernel) ?_
    refine s_iadd (pc := 56) (by decide +kernel) ?_
    refine S_gd (fun c11 => ?_)
    refine s_lald (pc := 57) c9 c11 (by decide +kernel) ?_
    refine s_cVv (pc := 58) [.long (hJ g6 (hR g6 a0 28) (((5 : Int32) * a1) + (2 : Int32)).toNatClampNeg), .long (hJ g6 (hR g6 a0 28) (((5 : Int32) * a1) + (3 : Int32)).toNatClampNeg)] (tX7_addBreak a0 (hJ g6 (hR g6 a0 28) (((5 : Int32) * a1) + (2 : Int32)).toNatClampNeg) (hJ g6 (hR g6 a0 28) (((5 : Int32) * a1) + (3 : Int32)).toNatClampNeg) g6) c8 cw_X7_219 rfl ⟨⟨Nat.le_of_ble_eq_true rfl, Nat.le_of_ble_eq_true rfl⟩, Nat.le_of_ble_eq_true rfl⟩ rfl (by decide +kernel) (fun _ g12 e13 => ?_)
    refine s_iinc (pc := 61) (L' := [(1, .int (a1 + (1 : Int32))), (0, .ref a0)]) (i := 1) (n := 1) 1 rfl rfl (by decide) rfl (by decide +kernel) ?_
    refine s_nmI0 (e := a1 + (1 : Int32)) (L := fun v14 => [(1, .int v14), (0, .ref a0)]) (fun v14 => ?_)
    refine s_goto (pc := 64) (off := -57) 7 (by decide +kernel) (by decide) ?_
    refine S_sub [1, 0] rfl ?_
    exact hr7 a0 v14 g12
theorem pX7_layBreaks_l7 {h0 : xH}   : ∀ (k : Nat)  (a0 : Nat) (a1 : Int32) (h : xH), S emV kX7_layBreaks h0 7 [(0, .ref a0), (1, .int a1)] [] h (fX7_layBreaks_l7  k  a0 a1 h) := by
  intro k
  induction k with
  | zero => intros; exact S_none
  | succ k ih => intro  a0 a1 h; exact pX7_layBreaks_b7 ih  a0 a1 h
theorem pX7_layBreaks_e    (a0 : Nat) (h : xH) : S emV kX7_layBreaks h 0 [(0, .ref a0)] [] h (fX7_layBreaks  a0 h) := by
  unfold fX7_layBreaks
  refine s_aload_n (pc := 0) (k0 := 0) (i := 0) rfl 0 rfl (by decide +kernel) ?_
  refine s_iconst (pc := 1) (n := 0) (v := (0 : Int32)) (by decide) (by decide +kernel) ?_
  refine S_gd (fun c1 => ?_)
  refine s_putI (pc := 2) (k := 31) c1 ft_X7_216 (fw_7_31 _ _) rfl rfl (by decide +kernel) ?_
  refine s_nmH (o := h) rfl (fun g2 e3 => ?_)
  refine s_iconst (pc := 5) (n := 0) (v := (0 : Int32)) (by decide) (by decide +kernel) ?_
  refine s_nmI (fun v4 => ?_)
  refine s_istore_n (pc := 6) (L' := [(1, .int v4), (0, .ref a0)]) (k0 := 1) (i := 1) rfl (by decide) rfl (by decide +kernel) ?_
  refine S_sub [1, 0] rfl ?_
  exact pX7_layBreaks_l7 FU a0 v4 g2
theorem tX7_layBreaks (a0 : Nat) (h : xH) : Ct yX7_layBreaks kX7_layBreaks emV [.ref a0] h (fX7_layBreaks a0 h) := Ct_of (by decide +kernel) rfl rfl rfl (Nat.le_of_ble_eq_true rfl) rfl (pX7_layBreaks_e a0 h)
def fX7_leastAt_b87 (r6 : Nat → Int64 → Int64 → Int32 → Int32 → xH → Option (Int32 × xH)) (s0 : Int32) (a0 : Nat) (a1 : Int64) (a3 : Int64) (a6 : Int32) (h : xH) : Option (Int32 × xH) :=
  lt (a6 + (1 : Int32)) (fun v1 =>
  r6 a0 a1 a3 s0 v1 h)
def fX7_leastAt_b85 (r6 : Nat → Int64 → Int64 → Int32 → Int32 → xH → Option (Int32 × xH))  (a0 : Nat) (a1 : Int64) (a3 : Int64) (a5 : Int32) (a6 : Int32) (h : xH) : Option (Int32 × xH) :=
  fX7_leastAt_b87 r6 a5 a0 a1 a3 a6 h
def fX7_leastAt_b80 (r6 : Nat → Int64 → Int64 → Int32 → Int32 → xH → Option (Int32 × xH))  (a0 : Nat) (a1 : Int64) (a3 : Int64) (a6 : Int32) (h : xH) : Option (Int32 × xH) :=
  fX7_leastAt_b87 r6 a6 a0 a1 a3 a6 h
def fX7_leastAt_b54 (r6 : Nat → Int64 → Int64 → Int32 → Int32 → xH → Option (Int32 × xH)) (s0 : Int32) (a0 : Nat) (a1 : Int64) (a3 : Int64) (a5 : Int32) (a6 : Int32) (h : xH) : Option (Int32 × xH) :=
  if s0 = 0 then (
  fX7_leastAt_b85 r6 a0 a1 a3 a5 a6 h)
  else (
  if a5 = (-1 : Int32) then (
  fX7_leastAt_b80 r6 a0 a1 a3 a6 h)
  else (
  if kc h a0 = 7 then
  bd (fX7_lieAt a0 a6 a5 a1 a3 h) (fun w4 g2 =>
  if 0 ≤ w4 then (
  fX7_leastAt_b85 r6 a0 a1 a3 a5 a6 g2)
  else (
  fX7_leastAt_b80 r6 a0 a1 a3 a6 g2))
  else none))
def fX7_leastAt_b53 (r6 : Nat → Int64 → Int64 → Int32 → Int32 → xH → Option (Int32 × xH))  (a0 : Nat) (a1 : Int64) (a3 : Int64) (a5 : Int32) (a6 : Int32) (h : xH) : Option (Int32 × xH) :=
  fX7_leastAt_b54 r6 (0 : Int32) a0 a1 a3 a5 a6 h
def fX7_leastAt_b6 (r6 : Nat → Int64 → Int64 → Int32 → Int32 → xH → Option (Int32 × xH))  (a0 : Nat) (a1 : Int64) (a3 : Int64) (a5 : Int32) (a6 : Int32) (h : xH) : Option (Int32 × xH) :=
  if kc h a0 = 7 then
  if (hI h a0 19) ≤ a6 then (
  some (a5, h))
  else (
  if kc h (hR h a0 20) = 8 then
  if ix a6 (kl h (hR h a0 20)) then
  bd (fX7_lie ((hI h (hR h a0 20) a6.toNatClampNeg).toInt64) (1 : Int64) a1 a3 h) (fun w6 g4 =>
  if 0 < w6 then (
  fX7_leastAt_b53 r6 a0 a1 a3 a5 a6 g4)
  else (
  if kc g4 (hR g4 a0 21) = 8 then
  if ix a6 (kl g4 (hR g4 a0 21)) then
  bd (fX7_lie ((hI g4 (hR g4 a0 21) a6.toNatClampNeg).toInt64) (1 : Int64) a1 a3 g4) (fun w12 g10 =>
  if w12 < 0 then (
  fX7_leastAt_b53 r6 a0 a1 a3 a5 a6 g10)
  else (
  fX7_leastAt_b54 r6 (1 : Int32) a0 a1 a3 a5 a6 g10))
  else none
  else none))
  else none
  else none)
  else none
def fX7_leastAt_l6  : Nat → Nat → Int64 → Int64 → Int32 → Int32 → xH → Option (Int32 × xH)
  | 0 => fun _ _ _ _ _ _ => none
  | k + 1 => fX7_leastAt_b6 (fX7_leastAt_l6  k)
def fX7_leastAt   (a0 : Nat) (a1 : Int64) (a3 : Int64) (h : xH) : Option (Int32 × xH) :=
  lt (-1 : Int32) (fun v1 =>
  lt (0 : Int32) (fun v2 =>
  fX7_leastAt_l6 FU a0 a1 a3 v1 v2 h))
theorem pX7_leastAt_b87 {h0 : xH} {r6 : Nat → Int64 → Int64 → Int32 → Int32 → xH → Option (Int32 × xH)} (hr6 : ∀  (a0 : Nat) (a1 : Int64) (a3 : Int64) (a5 : Int32) (a6 : Int32) (g : xH), S emI kX7_leastAt h0 6 [(0, .ref a0), (1, .long a1), (3, .long a3), (5, .int a5), (6, .int a6)] [] g (r6  a0 a1 a3 a5 a6 g)) (s0 : Int32) (a0 : Nat) (a1 : Int64) (a3 : Int64) (a6 : Int32) (h : xH) : S emI kX7_leastAt h0 87 [(0, .ref a0), (1, .long a1), (3, .long a3), (6, .int a6)] [.int s0] h (fX7_leastAt_b87 r6 s0 a0 a1 a3 a6 h) := by
  unfold fX7_leastAt_b87
  refine s_istore (pc := 87) (L' := [(5, .int s0), (0, .ref a0), (1, .long a1), (3, .long a3), (6, .int a6)]) (i := 5) (by decide) rfl (by decide +kernel) ?_
  refine s_iinc (pc := 89) (L' := [(6, .int (a6 + (1 : Int32))), (5, .int s0), (0, .ref a0), (1, .long a1), (3, .long a3)]) (i := 6) (n := 1) 4 rfl rfl (by decide) rfl (by decide +kernel) ?_
  refine s_nmI0 (e := a6 + (1 : Int32)) (L := fun v1 => [(6, .int v1), (5, .int s0), (0, .ref a0), (1, .long a1), (3, .long a3)]) (fun v1 => ?_)
  refine s_goto (pc := 92) (off := -86) 6 (by decide +kernel) (by decide) ?_
  refine S_sub [2, 3, 4, 1, 0] rfl ?_
  exact hr6 a0 a1 a3 s0 v1 h
theorem pX7_leastAt_b85 {h0 : xH} {r6 : Nat → Int64 → Int64 → Int32 → Int32 → xH → Option (Int32 × xH)} (hr6 : ∀  (a0 : Nat) (a1 : Int64) (a3 : Int64) (a5 : Int32) (a6 : Int32) (g : xH), S emI kX7_leastAt h0 6 [(0, .ref a0), (1, .long a1), (3, .long a3), (5, .int a5), (6, .int a6)] [] g (r6  a0 a1 a3 a5 a6 g))  (a0 : Nat) (a1 : Int64) (a3 : Int64) (a5 : Int32) (a6 : Int32) (h : xH) : S emI kX7_leastAt h0 85 [(0, .ref a0), (1, .long a1), (3, .long a3), (5, .int a5), (6, .int a6)] [] h (fX7_leastAt_b85 r6 a0 a1 a3 a5 a6 h) := by
  unfold fX7_leastAt_b85
  refine s_iload (pc := 85) (i := 5) 3 rfl (by decide +kernel) ?_
  refine S_sub [0, 1, 2, 4] rfl ?_
  exact pX7_leastAt_b87 hr6 a5 a0 a1 a3 a6 h
theorem pX7_leastAt_b80 {h0 : xH} {r6 : Nat → Int64 → Int64 → Int32 → Int32 → xH → Option (Int32 × xH)} (hr6 : ∀  (a0 : Nat) (a1 : Int64) (a3 : Int64) (a5 : Int32) (a6 : Int32) (g : xH), S emI kX7_leastAt h0 6 [(0, .ref a0), (1, .long a1), (3, .long a3), (5, .int a5), (6, .int a6)] [] g (r6  a0 a1 a3 a5 a6 g))  (a0 : Nat) (a1 : Int64) (a3 : Int64) (a6 : Int32) (h : xH) : S emI kX7_leastAt h0 80 [(0, .ref a0), (1, .long a1), (3, .long a3), (6, .int a6)] [] h (fX7_leastAt_b80 r6 a0 a1 a3 a6 h) := by
  unfold fX7_leastAt_b80
  refine s_iload (pc := 80) (i := 6) 3 rfl (by decide +kernel) ?_
  refine s_goto (pc := 82) (off := 5) 87 (by decide +kernel) (by decide) ?_
  exact pX7_leastAt_b87 hr6 a6 a0 a1 a3 a6 h
theorem pX7_leastAt_b54 {h0 : xH} {r6 : Nat → Int64 → Int64 → Int32 → Int32 → xH → Option (Int32 × xH)} (hr6 : ∀  (a0 : Nat) (a1 : Int64) (a3 : Int64) (a5 : Int32) (a6 : Int32) (g : xH), S emI kX7_leastAt h0 6 [(0, .ref a0), (1, .long a1), (3, .long a3), (5, .int a5), (6, .int a6)] [] g (r6  a0 a1 a3 a5 a6 g)) (s0 : Int32) (a0 : Nat) (a1 : Int64) (a3 : Int64) (a5 : Int32) (a6 : Int32) (h : xH) : S emI kX7_leastAt h0 54 [(0, .ref a0), (1, .long a1), (3, .long a3), (5, .int a5), (6, .int a6)] [.int s0] h (fX7_leastAt_b54 r6 s0 a0 a1 a3 a5 a6 h) := by
  unfold fX7_leastAt_b54
  refine s_istore (pc := 54) (L' := [(7, .int s0), (0, .ref a0), (1, .long a1), (3, .long a3), (5, .int a5), (6, .int a6)]) (i := 7) (by decide) rfl (by decide +kernel) ?_
  refine s_iload (pc := 56) (i := 7) 0 rfl (by decide +kernel) ?_
  refine s_if_eq (pc := 58) (off := 27) 85 (by decide +kernel) (by decide) (fun _ => ?_) (fun _ => ?_)
  · refine S_sub [1, 2, 3, 4, 5] rfl ?_
    exact pX7_leastAt_b85 hr6 a0 a1 a3 a5 a6 h
  · refine s_iload (pc := 61) (i := 5) 4 rfl (by decide +kernel) ?_
    refine s_iconst (pc := 63) (n := -1) (v := (-1 : Int32)) (by decide) (by decide +kernel) ?_
    refine s_icmp_eq (pc := 64) (off := 16) 80 (by decide +kernel) (by decide) (fun _ => ?_) (fun _ => ?_)
    · refine S_sub [1, 2, 3, 5] rfl ?_
      exact pX7_leastAt_b80 hr6 a0 a1 a3 a6 h
    · refine s_aload_n (pc := 67) (k0 := 0) (i := 0) rfl 1 rfl (by decide +kernel) ?_
      refine s_iload (pc := 68) (i := 6) 5 rfl (by decide +kernel) ?_
      refine s_iload (pc := 70) (i := 5) 4 rfl (by decide +kernel) ?_
      refine s_lload_n (pc := 72) (k0 := 1) (i := 1) rfl 2 rfl (by decide +kernel) ?_
      refine s_lload_n (pc := 73) (k0 := 3) (i := 3) rfl 3 rfl (by decide +kernel) ?_
      refine S_gd (fun c1 => ?_)
      refine s_cVi (pc := 74) [.int a6, .int a5, .long a1, .long a3] (tX7_lieAt a0 a6 a5 a1 a3 h) c1 cw_X7_196 rfl ⟨⟨Nat.le_of_ble_eq_true rfl, Nat.le_of_ble_eq_true rfl⟩, Nat.le_of_ble_eq_true rfl⟩ rfl (by decide +kernel) (fun w4 g2 e3 => ?_)
      refine s_if_ge (pc := 77) (off := 8) 85 (by decide +kernel) (by decide) (fun _ => ?_) (fun _ => ?_)
      · refine S_sub [1, 2, 3, 4, 5] rfl ?_
        exact pX7_leastAt_b85 hr6 a0 a1 a3 a5 a6 g2
      · refine S_sub [1, 2, 3, 5] rfl ?_
        exact pX7_leastAt_b80 hr6 a0 a1 a3 a6 g2
theorem pX7_leastAt_b53 {h0 : xH} {r6 : Nat → Int64 → Int64 → Int32 → Int32 → xH → Option (Int32 × xH)} (hr6 : ∀  (a0 : Nat) (a1 : Int64) (a3 : Int64) (a5 : Int32) (a6 : Int32) (g : xH), S emI kX7_leastAt h0 6 [(0, .ref a0), (1, .long a1), (3, .long a3), (5, .int a5), (6, .int a6)] [] g (r6  a0 a1 a3 a5 a6 g))  (a0 : Nat) (a1 : Int64) (a3 : Int64) (a5 : Int32) (a6 : Int32) (h : xH) : S emI kX7_leastAt h0 53 [(0, .ref a0), (1, .long a1), (3, .long a3), (5, .int a5), (6, .int a6)] [] h (fX7_leastAt_b53 r6 a0 a1 a3 a5 a6 h) := by
  unfold fX7_leastAt_b53
  refine s_iconst (pc := 53) (n := 0) (v := (0 : Int32)) (by decide) (by decide +kernel) ?_
  exact pX7_leastAt_b54 hr6 (0 : Int32) a0 a1 a3 a5 a6 h
theorem pX7_leastAt_b6 {h0 : xH} {r6 : Nat → Int64 → Int64 → Int32 → Int32 → xH → Option (Int32 × xH)} (hr6 : ∀  (a0 : Nat) (a1 : Int64) (a3 : Int64) (a5 : Int32) (a6 : Int32) (g : xH), S emI kX7_leastAt h0 6 [(0, .ref a0), (1, .long a1), (3, .long a3), (5, .int a5), (6, .int a6)] [] g (r6  a0 a1 a3 a5 a6 g))  (a0 : Nat) (a1 : Int64) (a3 : Int64) (a5 : Int32) (a6 : Int32) (h : xH) : S emI kX7_leastAt h0 6 [(0, .ref a0), (1, .long a1), (3, .long a3), (5, .int a5), (6, .int a6)] [] h (fX7_leastAt_b6 r6 a0 a1 a3 a5 a6 h) := by
  unfold fX7_leastAt_b6
  refine s_iload (pc := 6) (i := 6) 4 rfl (by decide +kernel) ?_
  refine s_aload_n (pc := 8) (k0 := 0) (i := 0) rfl 0 rfl (by decide +kernel) ?_
  refine S_gd (fun c1 => ?_)
  refine s_getI (pc := 9) (k := 19) c1 ft_X7_158 rfl (by decide +kernel) ?_
  refine s_icmp_ge (pc := 12) (off := 83) 95 (by decide +kernel) (by decide) (fun _ => ?_) (fun _ => ?_)
  · refine s_iload (pc := 95) (i := 5) 3 rfl (by decide +kernel) ?_
    exact s_iret (pc := 97) rfl (by decide +kernel)
  · refine s_aload_n (pc := 15) (k0 := 0) (i := 0) rfl 0 rfl (by decide +kernel) ?_
    refine s_getR (pc := 16) (k := 20) c1 ft_X7_57 rfl (by decide +kernel) ?_
    refine s_iload (pc := 19) (i := 6) 4 rfl (by decide +kernel) ?_
    refine S_gd (fun c2 => ?_)
    refine S_gd (fun c3 => ?_)
    refine s_iald (pc := 21) c2 c3 (by decide +kernel) ?_
    refine s_i2l (pc := 22) (by decide +kernel) ?_
    refine s_lconst (pc := 23) (n := 1) (v := (1 : Int64)) (by decide) (by decide +kernel) ?_
    refine s_lload_n (pc := 24) (k0 := 1) (i := 1) rfl 1 rfl (by decide +kernel) ?_
    refine s_lload_n (pc := 25) (k0 := 3) (i := 3) rfl 2 rfl (by decide +kernel) ?_
    refine s_cSi (pc := 26) [.long ((hI h (hR h a0 20) a6.toNatClampNeg).toInt64), .long (1 : Int64), .long a1, .long a3] (tX7_lie ((hI h (hR h a0 20) a6.toNatClampNeg).toInt64) (1 : Int64) a1 a3 h) cw_X7_189 rfl ⟨⟨Nat.le_of_ble_eq_true rfl, Nat.le_of_ble_eq_true rfl⟩, Nat.le_of_ble_eq_true rfl⟩ rfl (by decide +kernel) (fun w6 g4 e5 => ?_)
    refine s_if_gt (pc := 29) (off := 24) 53 (by decide +kernel) (by decide) (fun _ => ?_) (fun _ => ?_)
    · exact pX7_leastAt_b53 hr6 a0 a1 a3 a5 a6 g4
    · refine s_aload_n (pc := 32) (k0 := 0) (i := 0) rfl 0 rfl (by decide +kernel) ?_
      have c7 := kp e5 c1 (by decide)
      refine s_getR (pc := 33) (k := 21) c7 ft_X7_60 rfl (by decide +kernel) ?_
      refine s_iload (pc := 36) (i := 6) 4 rfl (by decide +kernel) ?_
      refine S_gd (fun c8 => ?_)
      refine S_gd (fun c9 => ?_)
      refine s_iald (pc := 38) c8 c9 (by decide +kernel) ?_
      refine s_i2l (pc := 39) (by decide +kernel) ?_
      refine s_lconst (pc := 40) (n := 1) (v := (1 : Int64)) (by decide) (by decide +kernel) ?_
      refine s_lload_n (pc := 41) (k0 := 1) (i := 1) rfl 1 rfl (by decide +kernel) ?_
      refine s_lload_n (pc := 42) (k0 := 3) (i := 3) rfl 2 rfl (by decide +kernel) ?_
      refine s_cSi (pc := 43) [.long ((hI g4 (hR g4 a0 21) a6.toNatClampNeg).toInt64), .long (1 : Int64), .long a1, .long a3] (tX7_lie ((hI g4 (hR g4 a0 21) a6.toNatClampNeg).toInt64) (1 : Int64) a1 a3 g4) cw_X7_189 rfl ⟨⟨Nat.le_of_ble_eq_true rfl, Nat.le_of_ble_eq_true rfl⟩, Nat.le_of_ble_eq_true rfl⟩ rfl (by decide +kernel) (fun w12 g10 e11 => ?_)
      refine s_if_lt (pc := 46) (off := 7) 53 (by decide +kernel) (by decide) (fun _ => ?_) (fun _ => ?_)
      · exact pX7_leastAt_b53 hr6 a0 a1 a3 a5 a6 g10
      · refine s_iconst (pc := 49) (n := 1) (v := (1 : Int32)) (by decide) (by decide +kernel) ?_
        refine s_goto (pc := 50) (off := 4) 54 (by decide +kernel) (by decide) ?_
        exact pX7_leastAt_b54 hr6 (1 : Int32) a0 a1 a3 a5 a6 g10
theorem pX7_leastAt_l6 {h0 : xH}   : ∀ (k : Nat)  (a0 : Nat) (a1 : Int64) (a3 : Int64) (a5 : Int32) (a6 : Int32) (h : xH), S emI kX7_leastAt h0 6 [(0, .ref a0), (1, .long a1), (3, .long a3), (5, .int a5), (6, .int a6)] [] h (fX7_leastAt_l6  k  a0 a1 a3 a5 a6 h) := by
  intro k
  induction k with
  | zero => intros; exact S_none
  | succ k ih => intro  a0 a1 a3 a5 a6 h; exact pX7_leastAt_b6 ih  a0 a1 a3 a5 a6 h
theorem pX7_leastAt_e    (a0 : Nat) (a1 : Int64) (a3 : Int64) (h : xH) : S emI kX7_leastAt h 0 [(0, .ref a0), (1, .long a1), (3, .long a3)] [] h (fX7_leastAt  a0 a1 a3 h) := by
  unfold fX7_leastAt
  refine s_iconst (pc := 0) (n := -1) (v := (-1 : Int32)) (by decide) (by decide +kernel) ?_
  refine s_nmI (fun v1 => ?_)
  refine s_istore (pc := 1) (L' := [(5, .int v1), (0, .ref a0), (1, .long a1), (3, .long a3)]) (i := 5) (by decide) rfl (by decide +kernel) ?_
  refine s_iconst (pc := 3) (n := 0) (v := (0 : Int32)) (by decide) (by decide +kernel) ?_
  refine s_nmI (fun v2 => ?_)
  refine s_istore (pc := 4) (L' := [(6, .int v2), (5, .int v1), (0, .ref a0), (1, .long a1), (3, .long a3)]) (i := 6) (by decide) rfl (by decide +kernel) ?_
  refine S_sub [2, 3, 4, 1, 0] rfl ?_
  exact pX7_leastAt_l6 FU a0 a1 a3 v1 v2 h
theorem tX7_leastAt (a0 : Nat) (a1 : Int64) (a3 : Int64) (h : xH) : Ct yX7_leastAt kX7_leastAt emI [.ref a0, .long a1, .long a3] h (fX7_leastAt a0 a1 a3 h) := Ct_of (by decide +kernel) rfl rfl rfl (Nat.le_of_ble_eq_true rfl) rfl (pX7_leastAt_e a0 a1 a3 h)
def fX7_knot   (a0 : Nat) (a1 : Int64) (a3 : Int64) (a5 : Int32) (a6 : Int32) (h : xH) : Option (Unit × xH) :=
  if kc h a0 = 7 then
  lt ((4 : Int32) * (hI h a0 4)) (fun v2 =>
  if kc h (hR h a0 22) = 9 then
  if ix a5 (kl h (hR h a0 22)) then
  if kc h (hR h a0 23) = 9 then
  if ix a5 (kl h (hR h a0 23)) then
  lt (((hJ h (hR h a0 22) a5.toNatClampNeg) * a3) + ((hJ h (hR h a0 23) a5.toNatClampNeg) * a1)) (fun v7 =>
  if kc h (hR h a0 24) = 9 then
  if ix a5 (kl h (hR h a0 24)) then
  lt ((hJ h (hR h a0 24) a5.toNatClampNeg) * a3) (fun v10 =>
  bd (fX7_common v7 v10 h) (fun w13 g11 =>
  if kc g11 (hR g11 a0 5) = 9 then
  if ix v2 (kl g11 (hR g11 a0 5)) then
  lt (sJ g11 (hR g11 a0 5) v2.toNatClampNeg a1) (fun g17 =>
  if kc g17 (hR g17 a0 5) = 9 then
  if ix (v2 + (1 : Int32)) (kl g17 (hR g17 a0 5)) then
  lt (sJ g17 (hR g17 a0 5) (v2 + (1 : Int32)).toNatClampNeg a3) (fun g22 =>
  if ¬ w13 = 0 then
  if kc g22 (hR g22 a0 5) = 9 then
  if ix (v2 + (2 : Int32)) (kl g22 (hR g22 a0 5)) then
  lt (sJ g22 (hR g22 a0 5) (v2 + (2 : Int32)).toNatClampNeg (v7 / w13)) (fun g27 =>
  if ¬ w13 = 0 then
  if kc g27 (hR g27 a0 5) = 9 then
  if ix (v2 + (3 : Int32)) (kl g27 (hR g27 a0 5)) then
  lt (sJ g27 (hR g27 a0 5) (v2 + (3 : Int32)).toNatClampNeg (v10 / w13)) (fun g32 =>
  if a6 = 0 ∨ a6 = 1 then
  if kc g32 (hR g32 a0 6) = 10 then
  if ix (hI g32 a0 4) (kl g32 (hR g32 a0 6)) then
  lt (sI g32 (hR g32 a0 6) (hI g32 a0 4).toNatClampNeg a6) (fun g38 =>
  lt (sI g38 a0 4 ((hI g38 a0 4) + (1 : Int32))) (fun g41 =>
  some ((), g41)))
  else none
  else none
  else none)
  else none
  else none
  else none)
  else none
  else none
  else none)
  else none
  else none)
  else none
  else none))
  else none
  else none)
  else none
  else none
  else none
  else none)
  else none
theorem pX7_knot_e    (a0 : Nat) (a1 : Int64) (a3 : Int64) (a5 : Int32) (a6 : Int32) (h : xH) : S emV kX7_knot h 0 [(0, .ref a0), (1, .long a1), (3, .long a3), (5, .int a5), (6, .int a6)] [] h (fX7_knot  a0 a1 a3 a5 a6 h) := by
  unfold fX7_knot
  refine s_iconst (pc := 0) (n := 4) (v := (4 : Int32)) (by decide) (by decide +kernel) ?_
  refine s_aload_n (pc := 1) (k0 := 0) (i := 0) rfl 0 rfl (by decide +kernel) ?_
  refine S_gd (fun c1 => ?_)
  refine s_getI (pc := 2) (k := 4) c1 ft_X7_125 rfl (by decide +kernel) ?_
  refine s_imul (pc := 5) (by decide +kernel) ?_
  refine s_nmI (fun v2 => ?_)
  refine s_istore (pc := 6) (L' := [(7, .int v2), (0, .ref a0), (1, .long a1), (3, .long a3), (5, .int a5), (6, .int a6)]) (i := 7) (by decide) rfl (by decide +kernel) ?_
  refine s_aload_n (pc := 8) (k0 := 0) (i := 0) rfl 1 rfl (by decide +kernel) ?_
  refine s_getR (pc := 9) (k := 22) c1 ft_X7_63 rfl (by decide +kernel) ?_
  refine s_iload (pc := 12) (i := 5) 4 rfl (by decide +kernel) ?_
  refine S_gd (fun c3 => ?_)
  refine S_gd (fun c4 => ?_)
  refine s_lald (pc := 14) c3 c4 (by decide +kernel) ?_
  refine s_lload_n (pc := 15) (k0 := 3) (i := 3) rfl 3 rfl (by decide +kernel) ?_
  refine s_lmul (pc := 16) (by decide +kernel) ?_
  refine s_aload_n (pc := 17) (k0 := 0) (i := 0) rfl 1 rfl (by decide +kernel) ?_
  refine s_getR (pc := 18) (k := 23) c1 ft_X7_66 rfl (by decide +kernel) ?_
  refine s_iload (pc := 21) (i := 5) 4 rfl (by decide +kernel) ?_
  refine S_gd (fun c5 => ?_)
  refine S_gd (fun c6 => ?_)
  refine s_lald (pc := 23) c5 c6 (by decide +kernel) ?_
  refine s_lload_n (pc := 24) (k0 := 1) (i := 1) rfl 2 rfl (by decide +kernel) ?_
  refine s_lmul (pc := 25) (by decide +kernel) ?_
  refine s_ladd (pc := 26) (by decide +kernel) ?_
  refine s_nmJ (fun v7 => ?_)
  refine s_lstore (pc := 27) (L' := [(8, .long v7), (7, .int v2), (0, .ref a0), (1, .long a1), (3, .long a3), (5, .int a5), (6, .int a6)]) (i := 8) (by decide) rfl (by decide +kernel) ?_
  refine s_aload_n (pc := 29) (k0 := 0) (i := 0) rfl 2 rfl (by decide +kernel) ?_
  refine s_getR (pc := 30) (k := 24) c1 ft_X7_69 rfl (by decide +kernel) ?_
  refine s_iload (pc := 33) (i := 5) 5 rfl (by decide +kernel) ?_
  refine S_gd (fun c8 => ?_)
  refine S_gd (fun c9 => ?_)
  refine s_lald (pc := 35) c8 c9 (by decide +kernel) ?_
  refine s_lload_n (pc := 36) (k0 := 3) (i := 3) rfl 4 rfl (by decide +kernel) ?_
  refine s_lmul (pc := 37) (by decide +kernel) ?_
  refine s_nmJ (fun v10 => ?_)
  refine s_lstore (pc := 38) (L' := [(10, .long v10), (8, .long v7), (7, .int v2), (0, .ref a0), (1, .long a1), (3, .long a3), (5, .int a5), (6, .int a6)]) (i := 10) (by decide) rfl (by decide +kernel) ?_
  refine s_lload (pc := 40) (i := 8) 1 rfl (by decide +kernel) ?_
  refine s_lload (pc := 42) (i := 10) 0 rfl (by decide +kernel) ?_
  refine s_cSj (pc := 44) [.long v7, .long v10] (tX7_common v7 v10 h) cw_X7_204 rfl ⟨⟨Nat.le_of_ble_eq_true rfl, Nat.le_of_ble_eq_true rfl⟩, Nat.le_of_ble_eq_true rfl⟩ rfl (by decide +kernel) (fun w13 g11 e12 => ?_)
  refine s_lstore (pc := 47) (L' := [(12, .long w13), (10, .long v10), (8, .long v7), (7, .int v2), (0, .ref a0), (1, .long a1), (3, .long a3), (5, .int a5), (6, .int a6)]) (i := 12) (by decide) rfl (by decide +kernel) ?_
  refine s_aload_n (pc := 49) (k0 := 0) (i := 0) rfl 4 rfl (by decide +kernel) ?_
  have c14 := kp e12 c1 (by decide)
  refine s_getR (pc := 50) (k := 5) c14 ft_X7_18 rfl (by decide +kernel) ?_
  refine s_iload (pc := 53) (i := 7) 3 rfl (by decide +kernel) ?_
  refine s_lload_n (pc := 55) (k0 := 1) (i := 1) rfl 5 rfl (by decide +kernel) ?_
  refine S_gd (fun c15 => ?_)
  refine S_gd (fun c16 => ?_)
  refine s_last (pc := 56) c15 c16 (by decide +kernel) ?_
  refine s_nmH (o := g11) rfl (fun g17 e18 => ?_)
  refine s_aload_n (pc := 57) (k0 := 0) (i := 0) rfl 4 rfl (by decide +kernel) ?_
  have c19 := kp e18 c14 (by decide)
  refine s_getR (pc := 58) (k := 5) c19 ft_X7_18 rfl (by decide +kernel) ?_
  refine s_iload (pc := 61) (i := 7) 3 rfl (by decide +kernel) ?_
  refine s_iconst (pc := 63) (n := 1) (v := (1 : Int32)) (by decide) (by decide +kernel) ?_
  refine s_iadd (pc := 64) (by decide +kernel) ?_
  refine s_lload_n (pc := 65) (k0 := 3) (i := 3) rfl 6 rfl (by decide +kernel) ?_
  refine S_gd (fun c20 => ?_)
  refine S_gd (fun c21 => ?_)
  refine s_last (pc := 66) c20 c21 (by decide +kernel) ?_
  refine s_nmH (o := g17) rfl (fun g22 e23 => ?_)
  refine s_aload_n (pc := 67) (k0 := 0) (i := 0) rfl 4 rfl (by decide +kernel) ?_
  have c24 := kp e23 c19 (by decide)
  refine s_getR (pc := 68) (k := 5) c24 ft_X7_18 rfl (by decide +kernel) ?_
  refine s_iload (pc := 71) (i := 7) 3 rfl (by decide +kernel) ?_
  refine s_iconst (pc := 73) (n := 2) (v := (2 : Int32)) (by decide) (by decide +kernel) ?_
  refine s_iadd (pc := 74) (by decide +kernel) ?_
  refine s_lload (pc := 75) (i := 8) 2 rfl (by decide +kernel) ?_
  refine s_lload (pc := 77) (i := 12) 0 rfl (by decide +kernel) ?_
  refine s_ldiv (pc := 79) (by decide +kernel) ?_
  refine S_gd (fun c25 => ?_)
  refine S_gd (fun c26 => ?_)
  refine s_last (pc := 80) c25 c26 (by decide +kernel) ?_
  refine s_nmH (o := g22) rfl (fun g27 e28 => ?_)
  refine s_aload_n (pc := 81) (k0 := 0) (i := 0) rfl 4 rfl (by decide +kernel) ?_
  have c29 := kp e28 c24 (by decide)
  refine s_getR (pc := 82) (k := 5) c29 ft_X7_18 rfl (by decide +kernel) ?_
  refine s_iload (pc := 85) (i := 7) 3 rfl (by decide +kernel) ?_
  refine s_iconst (pc := 87) (n := 3) (v := (3 : Int32)) (by decide) (by decide +kernel) ?_
  refine s_iadd (pc := 88) (by decide +kernel) ?_
  refine s_lload (pc := 89) (i := 10) 1 rfl (by decide +kernel) ?_
  refine s_lload (pc := 91) (i := 12) 0 rfl (by decide +kernel) ?_
  refine s_ldiv (pc := 93) (by decide +kernel) ?_
  refine S_gd (fun c30 => ?_)
  refine S_gd (fun c31 => ?_)
  refine s_last (pc := 94) c30 c31 (by decide +kernel) ?_
  refine s_nmH (o := g27) rfl (fun g32 e33 => ?_)
  refine s_aload_n (pc := 95) (k0 := 0) (i := 0) rfl 4 rfl (by decide +kernel) ?_
  have c34 := kp e33 c29 (by decide)
  refine s_getR (pc := 96) (k := 6) c34 ft_X7_22 rfl (by decide +kernel) ?_
  refine s_aload_n (pc := 99) (k0 := 0) (i := 0) rfl 4 rfl (by decide +kernel) ?_
  refine s_getI (pc := 100) (k := 4) c34 ft_X7_125 rfl (by decide +kernel) ?_
  refine s_iload (pc := 103) (i := 6) 8 rfl (by decide +kernel) ?_
  refine S_gd (fun c35 => ?_)
  refine S_gd (fun c36 => ?_)
  refine S_gd (fun c37 => ?_)
  refine s_zast (pc := 105) c35 c36 c37 (by decide +kernel) ?_
  refine s_nmH (o := g32) rfl (fun g38 e39 => ?_)
  refine s_aload_n (pc := 106) (k0 := 0) (i := 0) rfl 4 rfl (by decide +kernel) ?_
  refine s_dup_a (pc := 107) (by decide +kernel) ?_
  have c40 := kp e39 c34 (by decide)
  refine s_getI (pc := 108) (k := 4) c40 ft_X7_125 rfl (by decide +kernel) ?_
  refine s_iconst (pc := 111) (n := 1) (v := (1 : Int32)) (by decide) (by decide +kernel) ?_
  refine s_iadd (pc := 112) (by decide +kernel) ?_
  refine s_putI (pc := 113) (k := 4) c40 ft_X7_125 (fw_7_4 _ _) rfl rfl (by decide +kernel) ?_
  refine s_nmH (o := g38) rfl (fun g41 e42 => ?_)
  exact s_vret (pc := 116) rfl (by decide +kernel)
theorem tX7_knot (a0 : Nat) (a1 : Int64) (a3 : Int64) (a5 : Int32) (a6 : Int32) (h : xH) : Ct yX7_knot kX7_knot emV [.ref a0, .long a1, .long a3, .int a5, .int a6] h (fX7_knot a0 a1 a3 a5 a6 h) := Ct_of (by decide +kernel) rfl rfl rfl (Nat.le_of_ble_eq_true rfl) rfl (pX7_knot_e a0 a1 a3 a5 a6 h)
def fX7_end_b124 (r9 : Nat → Int64 → Int64 → Int32 → Int32 → Int32 → xH → Option (Unit × xH)) (s0 : Int32) (a0 : Nat) (a1 : Int64) (a3 : Int64) (a5 : Int32) (a7 : Int32) (h : xH) : Option (Unit × xH) :=
  lt (a7 + (1 : Int32)) (fun v1 =>
  r9 a0 a1 a3 a5 s0 v1 h)
def fX7_end_b122 (r9 : Nat → Int64 → Int64 → Int32 → Int32 → Int32 → xH → Option (Unit × xH))  (a0 : Nat) (a1 : Int64) (a3 : Int64) (a5 : Int32) (a6 : Int32) (a7 : Int32) (h : xH) : Option (Unit × xH) :=
  fX7_end_b124 r9 a6 a0 a1 a3 a5 a7 h
def fX7_end_b97 (r9 : Nat → Int64 → Int64 → Int32 → Int32 → Int32 → xH → Option (Unit × xH)) (s0 : Int32) (a0 : Nat) (a1 : Int64) (a3 : Int64) (a6 : Int32) (a7 : Int32) (a8 : Int32) (a9 : Int32) (a10 : Int32) (h : xH) : Option (Unit × xH) :=
  if 0 < a9 then (
  fX7_end_b122 r9 a0 a1 a3 s0 a6 a7 h)
  else (
  if a10 ≤ 0 then (
  fX7_end_b122 r9 a0 a1 a3 s0 a6 a7 h)
  else (
  if kc h a0 = 7 then
  if kc h (hR h a0 28) = 9 then
  if ix (a8 + (4 : Int32)) (kl h (hR h a0 28)) then
  fX7_end_b124 r9 ((hJ h (hR h a0 28) (a8 + (4 : Int32)).toNatClampNeg).toInt32) a0 a1 a3 s0 a7 h
  else none
  else none
  else none))
def fX7_end_b95 (r9 : Nat → Int64 → Int64 → Int32 → Int32 → Int32 → xH → Option (Unit × xH))  (a0 : Nat) (a1 : Int64) (a3 : Int64) (a5 : Int32) (a6 : Int32) (a7 : Int32) (a8 : Int32) (a9 : Int32) (a10 : Int32) (h : xH) : Option (Unit × xH) :=
  fX7_end_b97 r9 a5 a0 a1 a3 a6 a7 a8 a9 a10 h
def fX7_end_b266  (s0 : Int32) (a0 : Nat) (a1 : Int64) (a3 : Int64) (a5 : Int32) (h : xH) : Option (Unit × xH) :=
  if s0 = 0 then (
  if kc h a0 = 7 then
  bd (fX7_knot a0 a1 a3 a5 (1 : Int32) h) (fun _ g2 =>
  some ((), g2))
  else none)
  else (
  some ((), h))
def fX7_end_b312   (a0 : Nat) (a1 : Int64) (a3 : Int64) (a6 : Int32) (h : xH) : Option (Unit × xH) :=
  if a6 = (-1 : Int32) then (
  some ((), h))
  else (
  if kc h a0 = 7 then
  bd (fX7_knot a0 a1 a3 a6 (1 : Int32) h) (fun _ g2 =>
  some ((), g2))
  else none)
def fX7_end_b298   (a0 : Nat) (a1 : Int64) (a3 : Int64) (a6 : Int32) (a7 : Int32) (a8 : Int32) (h : xH) : Option (Unit × xH) :=
  if a8 = 0 then (
  fX7_end_b312 a0 a1 a3 a6 h)
  else (
  if kc h a0 = 7 then
  bd (fX7_knot a0 a1 a3 a7 (0 : Int32) h) (fun _ g2 =>
  fX7_end_b312 a0 a1 a3 a6 g2)
  else none)
def fX7_end_b220  (s0 : Int32) (a0 : Nat) (a1 : Int64) (a3 : Int64) (a5 : Int32) (a6 : Int32) (a7 : Int32) (a8 : Int32) (h : xH) : Option (Unit × xH) :=
  if s0 = 0 then (
  if a5 = (-1 : Int32) then (
  fX7_end_b298 a0 a1 a3 a6 a7 a8 h)
  else (
  if kc h a0 = 7 then
  bd (fX7_knot a0 a1 a3 a5 (0 : Int32) h) (fun _ g2 =>
  fX7_end_b298 a0 a1 a3 a6 a7 a8 g2)
  else none))
  else (
  if kc h a0 = 7 then
  if kc h (hR h a0 23) = 9 then
  if ix a5 (kl h (hR h a0 23)) then
  if kc h (hR h a0 24) = 9 then
  if ix a6 (kl h (hR h a0 24)) then
  if ix a6 (kl h (hR h a0 23)) then
  if ix a5 (kl h (hR h a0 24)) then
  if (lg_cmp ((hJ h (hR h a0 23) a5.toNatClampNeg) * (hJ h (hR h a0 24) a6.toNatClampNeg)) ((hJ h (hR h a0 23) a6.toNatClampNeg) * (hJ h (hR h a0 24) a5.toNatClampNeg))) = 0 then (
  fX7_end_b266 (1 : Int32) a0 a1 a3 a5 h)
  else (
  fX7_end_b266 (0 : Int32) a0 a1 a3 a5 h)
  else none
  else none
  else none
  else none
  else none
  else none
  else none)
def fX7_end_b219   (a0 : Nat) (a1 : Int64) (a3 : Int64) (a5 : Int32) (a6 : Int32) (a7 : Int32) (a8 : Int32) (h : xH) : Option (Unit × xH) :=
  fX7_end_b220 (0 : Int32) a0 a1 a3 a5 a6 a7 a8 h
def fX7_end_b183  (s0 : Int32) (a0 : Nat) (a1 : Int64) (a3 : Int64) (a5 : Int32) (a6 : Int32) (a7 : Int32) (h : xH) : Option (Unit × xH) :=
  if s0 = 0 then (
  if a5 = (-1 : Int32) then (
  fX7_end_b219 a0 a1 a3 a5 a6 a7 s0 h)
  else (
  if a6 = (-1 : Int32) then (
  fX7_end_b219 a0 a1 a3 a5 a6 a7 s0 h)
  else (
  if kc h a0 = 7 then
  bd (fX7_lieAt a0 a5 a6 a1 a3 h) (fun w4 g2 =>
  if w4 = 0 then (
  fX7_end_b220 (1 : Int32) a0 a1 a3 a5 a6 a7 s0 g2)
  else (
  fX7_end_b219 a0 a1 a3 a5 a6 a7 s0 g2))
  else none)))
  else (
  fX7_end_b219 a0 a1 a3 a5 a6 a7 s0 h)
def fX7_end_b178   (a0 : Nat) (a1 : Int64) (a3 : Int64) (a5 : Int32) (a6 : Int32) (a7 : Int32) (h : xH) : Option (Unit × xH) :=
  fX7_end_b183 (1 : Int32) a0 a1 a3 a5 a6 a7 h
def fX7_end_b182   (a0 : Nat) (a1 : Int64) (a3 : Int64) (a5 : Int32) (a6 : Int32) (a7 : Int32) (h : xH) : Option (Unit × xH) :=
  fX7_end_b183 (0 : Int32) a0 a1 a3 a5 a6 a7 h
def fX7_end_b159   (a0 : Nat) (a1 : Int64) (a3 : Int64) (a5 : Int32) (a6 : Int32) (a7 : Int32) (h : xH) : Option (Unit × xH) :=
  if a6 = (-1 : Int32) then (
  fX7_end_b178 a0 a1 a3 a5 a6 a7 h)
  else (
  if kc h a0 = 7 then
  bd (fX7_lieAt a0 a7 a6 a1 a3 h) (fun w4 g2 =>
  if 0 ≤ w4 then (
  fX7_end_b182 a0 a1 a3 a5 a6 a7 g2)
  else (
  fX7_end_b178 a0 a1 a3 a5 a6 a7 g2))
  else none)
def fX7_end_b9 (r9 : Nat → Int64 → Int64 → Int32 → Int32 → Int32 → xH → Option (Unit × xH))  (a0 : Nat) (a1 : Int64) (a3 : Int64) (a5 : Int32) (a6 : Int32) (a7 : Int32) (h : xH) : Option (Unit × xH) :=
  if kc h a0 = 7 then
  if (hI h a0 27) ≤ a7 then (
  bd (fX7_leastAt a0 a1 a3 h) (fun w4 g2 =>
  if a5 = (-1 : Int32) then (
  fX7_end_b159 a0 a1 a3 a5 a6 w4 g2)
  else (
  bd (fX7_lieAt a0 w4 a5 a1 a3 g2) (fun w8 g6 =>
  if 0 ≤ w8 then (
  fX7_end_b182 a0 a1 a3 a5 a6 w4 g6)
  else (
  fX7_end_b159 a0 a1 a3 a5 a6 w4 g6)))))
  else (
  lt ((5 : Int32) * a7) (fun v9 =>
  if kc h (hR h a0 28) = 9 then
  if ix v9 (kl h (hR h a0 28)) then
  if ix (v9 + (1 : Int32)) (kl h (hR h a0 28)) then
  bd (fX7_lie (hJ h (hR h a0 28) v9.toNatClampNeg) (hJ h (hR h a0 28) (v9 + (1 : Int32)).toNatClampNeg) a1 a3 h) (fun w15 g13 =>
  if kc g13 (hR g13 a0 28) = 9 then
  if ix (v9 + (2 : Int32)) (kl g13 (hR g13 a0 28)) then
  if ix (v9 + (3 : Int32)) (kl g13 (hR g13 a0 28)) then
  bd (fX7_lie (hJ g13 (hR g13 a0 28) (v9 + (2 : Int32)).toNatClampNeg) (hJ g13 (hR g13 a0 28) (v9 + (3 : Int32)).toNatClampNeg) a1 a3 g13) (fun w22 g20 =>
  if 0 ≤ w15 then (
  fX7_end_b95 r9 a0 a1 a3 a5 a6 a7 v9 w15 w22 g20)
  else (
  if w22 < 0 then (
  fX7_end_b95 r9 a0 a1 a3 a5 a6 a7 v9 w15 w22 g20)
  else (
  if kc g20 (hR g20 a0 28) = 9 then
  if ix (v9 + (4 : Int32)) (kl g20 (hR g20 a0 28)) then
  fX7_end_b97 r9 ((hJ g20 (hR g20 a0 28) (v9 + (4 : Int32)).toNatClampNeg).toInt32) a0 a1 a3 a6 a7 v9 w15 w22 g20
  else none
  else none)))
  else none
  else none
  else none)
  else none
  else none
  else none))
  else none
def fX7_end_l9  : Nat → Nat → Int64 → Int64 → Int32 → Int32 → Int32 → xH → Option (Unit × xH)
  | 0 => fun _ _ _ _ _ _ _ => none
  | k + 1 => fX7_end_b9 (fX7_end_l9  k)
def fX7_end   (a0 : Nat) (a1 : Int64) (a3 : Int64) (h : xH) : Option (Unit × xH) :=
  lt (-1 : Int32) (fun v1 =>
  lt (-1 : Int32) (fun v2 =>
  lt (0 : Int32) (fun v3 =>
  fX7_end_l9 FU a0 a1 a3 v1 v2 v3 h)))
theorem pX7_end_b124 {h0 : xH} {r9 : Nat → Int64 → Int64 → Int32 → Int32 → Int32 → xH → Option (Unit × xH)} (hr9 : ∀  (a0 : Nat) (a1 : Int64) (a3 : Int64) (a5 : Int32) (a6 : Int32) (a7 : Int32) (g : xH), S emV kX7_end h0 9 [(0, .ref a0), (1, .long a1), (3, .long a3), (5, .int a5), (6, .int a6), (7, .int a7)] [] g (r9  a0 a1 a3 a5 a6 a7 g)) (s0 : Int32) (a0 : Nat) (a1 : Int64) (a3 : Int64) (a5 : Int32) (a7 : Int32) (h : xH) : S emV kX7_end h0 124 [(0, .ref a0), (1, .long a1), (3, .long a3), (5, .int a5), (7, .int a7)] [.int s0] h (fX7_end_b124 r9 s0 a0 a1 a3 a5 a7 h) := by
  unfold fX7_end_b124
  refine s_istore (pc := 124) (L' := [(6, .int s0), (0, .ref a0), (1, .long a1), (3, .long a3), (5, .int a5), (7, .int a7)]) (i := 6) (by decide) rfl (by decide +kernel) ?_
  refine s_iinc (pc := 126) (L' := [(7, .int (a7 + (1 : Int32))), (6, .int s0), (0, .ref a0), (1, .long a1), (3, .long a3), (5, .int a5)]) (i := 7) (n := 1) 5 rfl rfl (by decide) rfl (by decide +kernel) ?_
  refine s_nmI0 (e := a7 + (1 : Int32)) (L := fun v1 => [(7, .int v1), (6, .int s0), (0, .ref a0), (1, .long a1), (3, .long a3), (5, .int a5)]) (fun v1 => ?_)
  refine s_goto (pc := 129) (off := -120) 9 (by decide +kernel) (by decide) ?_
  refine S_sub [2, 3, 4, 5, 1, 0] rfl ?_
  exact hr9 a0 a1 a3 a5 s0 v1 h
theorem pX7_end_b122 {h0 : xH} {r9 : Nat → Int64 → Int64 → Int32 → Int32 → Int32 → xH → Option (Unit × xH)} (hr9 : ∀  (a0 : Nat) (a1 : Int64) (a3 : Int64) (a5 : Int32) (a6 : Int32) (a7 : Int32) (g : xH), S emV kX7_end h0 9 [(0, .ref a0), (1, .long a1), (3, .long a3), (5, .int a5), (6, .int a6), (7, .int a7)] [] g (r9  a0 a1 a3 a5 a6 a7 g))  (a0 : Nat) (a1 : Int64) (a3 : Int64) (a5 : Int32) (a6 : Int32) (a7 : Int32) (h : xH) : S emV kX7_end h0 122 [(0, .ref a0), (1, .long a1), (3, .long a3), (5, .int a5), (6, .int a6), (7, .int a7)] [] h (fX7_end_b122 r9 a0 a1 a3 a5 a6 a7 h) := by
  unfold fX7_end_b122
  refine s_iload (pc := 122) (i := 6) 4 rfl (by decide +kernel) ?_
  refine S_sub [0, 1, 2, 3, 5] rfl ?_
  exact pX7_end_b124 hr9 a6 a0 a1 a3 a5 a7 h
theorem pX7_end_b97 {h0 : xH} {r9 : Nat → Int64 → Int64 → Int32 → Int32 → Int32 → xH → Option (Unit × xH)} (hr9 : ∀  (a0 : Nat) (a1 : Int64) (a3 : Int64) (a5 : Int32) (a6 : Int32) (a7 : Int32) (g : xH), S emV kX7_end h0 9 [(0, .ref a0), (1, .long a1), (3, .long a3), (5, .int a5), (6, .int a6), (7, .int a7)] [] g (r9  a0 a1 a3 a5 a6 a7 g)) (s0 : Int32) (a0 : Nat) (a1 : Int64) (a3 : Int64) (a6 : Int32) (a7 : Int32) (a8 : Int32) (a9 : Int32) (a10 : Int32) (h : xH) : S emV kX7_end h0 97 [(0, .ref a0), (1, .long a1), (3, .long a3), (6, .int a6), (7, .int a7), (8, .int a8), (9, .int a9), (10, .int a10)] [.int s0] h (fX7_end_b97 r9 s0 a0 a1 a3 a6 a7 a8 a9 a10 h) := by
  unfold fX7_end_b97
  refine s_istore (pc := 97) (L' := [(5, .int s0), (0, .ref a0), (1, .long a1), (3, .long a3), (6, .int a6), (7, .int a7), (8, .int a8), (9, .int a9), (10, .int a10)]) (i := 5) (by decide) rfl (by decide +kernel) ?_
  refine s_iload (pc := 99) (i := 9) 7 rfl (by decide +kernel) ?_
  refine s_if_gt (pc := 101) (off := 21) 122 (by decide +kernel) (by decide) (fun _ => ?_) (fun _ => ?_)
  · refine S_sub [1, 2, 3, 0, 4, 5] rfl ?_
    exact pX7_end_b122 hr9 a0 a1 a3 s0 a6 a7 h
  · refine s_iload (pc := 104) (i := 10) 8 rfl (by decide +kernel) ?_
    refine s_if_le (pc := 106) (off := 16) 122 (by decide +kernel) (by decide) (fun _ => ?_) (fun _ => ?_)
    · refine S_sub [1, 2, 3, 0, 4, 5] rfl ?_
      exact pX7_end_b122 hr9 a0 a1 a3 s0 a6 a7 h
    · refine s_aload_n (pc := 109) (k0 := 0) (i := 0) rfl 1 rfl (by decide +kernel) ?_
      refine S_gd (fun c1 => ?_)
      refine s_getR (pc := 110) (k := 28) c1 ft_X7_75 rfl (by decide +kernel) ?_
      refine s_iload (pc := 113) (i := 8) 6 rfl (by decide +kernel) ?_
      refine s_iconst (pc := 115) (n := 4) (v := (4 : Int32)) (by decide) (by decide +kernel) ?_
      refine s_iadd (pc := 116) (by decide +kernel) ?_
      refine S_gd (fun c2 => ?_)
      refine S_gd (fun c3 => ?_)
      refine s_lald (pc := 117) c2 c3 (by decide +kernel) ?_
      refine s_l2i (pc := 118) (by decide +kernel) ?_
      refine s_goto (pc := 119) (off := 5) 124 (by decide +kernel) (by decide) ?_
      refine S_sub [1, 2, 3, 0, 5] rfl ?_
      exact pX7_end_b124 hr9 ((hJ h (hR h a0 28) (a8 + (4 : Int32)).toNatClampNeg).toInt32) a0 a1 a3 s0 a7 h
theorem pX7_end_b95 {h0 : xH} {r9 : Nat → Int64 → Int64 → Int32 → Int32 → Int32 → xH → Option (Unit × xH)} (hr9 : ∀  (a0 : Nat) (a1 : Int64) (a3 : Int64) (a5 : Int32) (a6 : Int32) (a7 : Int32) (g : xH), S emV kX7_end h0 9 [(0, .ref a0), (1, .long a1), (3, .long a3), (5, .int a5), (6, .int a6), (7, .int a7)] [] g (r9  a0 a1 a3 a5 a6 a7 g))  (a0 : Nat) (a1 : Int64) (a3 : Int64) (a5 : Int32) (a6 : Int32) (a7 : Int32) (a8 : Int32) (a9 : Int32) (a10 : Int32) (h : xH) : S emV kX7_end h0 95 [(0, .ref a0), (1, .long a1), (3, .long a3), (5, .int a5), (6, .int a6), (7, .int a7), (8, .int a8), (9, .int a9), (10, .int a10)] [] h (fX7_end_b95 r9 a0 a1 a3 a5 a6 a7 a8 a9 a10 h) := by
  unfold fX7_end_b95
  refine s_iload (pc := 95) (i := 5) 3 rfl (by decide +kernel) ?_
  refine S_sub [0, 1, 2, 4, 5, 6, 7, 8] rfl ?_
  exact pX7_end_b97 hr9 a5 a0 a1 a3 a6 a7 a8 a9 a10 h
theorem pX7_end_b266 {h0 : xH}   (s0 : Int32) (a0 : Nat) (a1 : Int64) (a3 : Int64) (a5 : Int32) (h : xH) : S emV kX7_end h0 266 [(0, .ref a0), (1, .long a1), (3, .long a3), (5, .int a5)] [.int s0] h (fX7_end_b266 s0 a0 a1 a3 a5 h) := by
  unfold fX7_end_b266
  refine s_istore (pc := 266) (L' := [(10, .int s0), (0, .ref a0), (1, .long a1), (3, .long a3), (5, .int a5)]) (i := 10) (by decide) rfl (by decide +kernel) ?_
  refine s_iload (pc := 268) (i := 10) 0 rfl (by decide +kernel) ?_
  refine s_if_ne (pc := 270) (off := 12) 282 (by decide +kernel) (by decide) (fun _ => ?_) (fun _ => ?_)
  · refine s_aload_n (pc := 273) (k0 := 0) (i := 0) rfl 1 rfl (by decide +kernel) ?_
    refine s_lload_n (pc := 274) (k0 := 1) (i := 1) rfl 2 rfl (by decide +kernel) ?_
    refine s_lload_n (pc := 275) (k0 := 3) (i := 3) rfl 3 rfl (by decide +kernel) ?_
    refine s_iload (pc := 276) (i := 5) 4 rfl (by decide +kernel) ?_
    refine s_iconst (pc := 278) (n := 1) (v := (1 : Int32)) (by decide) (by decide +kernel) ?_
    refine S_gd (fun c1 => ?_)
    refine s_cVv (pc := 279) [.long a1, .long a3, .int a5, .int (1 : Int32)] (tX7_knot a0 a1 a3 a5 (1 : Int32) h) c1 cw_X7_237 rfl ⟨⟨Nat.le_of_ble_eq_true rfl, Nat.le_of_ble_eq_true rfl⟩, Nat.le_of_ble_eq_true rfl⟩ rfl (by decide +kernel) (fun _ g2 e3 => ?_)
    exact s_vret (pc := 282) rfl (by decide +kernel)
  · exact s_vret (pc := 282) rfl (by decide +kernel)
theorem pX7_end_b312 {h0 : xH}    (a0 : Nat) (a1 : Int64) (a3 : Int64) (a6 : Int32) (h : xH) : S emV kX7_end h0 312 [(0, .ref a0), (1, .long a1), (3, .long a3), (6, .int a6)] [] h (fX7_end_b312  a0 a1 a3 a6 h) := by
  unfold fX7_end_b312
  refine s_iload (pc := 312) (i := 6) 3 rfl (by decide +kernel) ?_
  refine s_iconst (pc := 314) (n := -1) (v := (-1 : Int32)) (by decide) (by decide +kernel) ?_
  refine s_icmp_eq (pc := 315) (off := 12) 327 (by decide +kernel) (by decide) (fun _ => ?_) (fun _ => ?_)
  · exact s_vret (pc := 327) rfl (by decide +kernel)
  · refine s_aload_n (pc := 318) (k0 := 0) (i := 0) rfl 0 rfl (by decide +kernel) ?_
    refine s_lload_n (pc := 319) (k0 := 1) (i := 1) rfl 1 rfl (by decide +kernel) ?_
    refine s_lload_n (pc := 320) (k0 := 3) (i := 3) rfl 2 rfl (by decide +kernel) ?_
    refine s_iload (pc := 321) (i := 6) 3 rfl (by decide +kernel) ?_
    refine s_iconst (pc := 323) (n := 1) (v := (1 : Int32)) (by decide) (by decide +kernel) ?_
    refine S_gd (fun c1 => ?_)
    refine s_cVv (pc := 324) [.long a1, .long a3, .int a6, .int (1 : Int32)] (tX7_knot a0 a1 a3 a6 (1 : Int32) h) c1 cw_X7_237 rfl ⟨⟨Nat.le_of_ble_eq_true rfl, Nat.le_of_ble_eq_true rfl⟩, Nat.le_of_ble_eq_true rfl⟩ rfl (by decide +kernel) (fun _ g2 e3 => ?_)
    exact s_vret (pc := 327) rfl (by decide +kernel)
theorem pX7_end_b298 {h0 : xH}    (a0 : Nat) (a1 : Int64) (a3 : Int64) (a6 : Int32) (a7 : Int32) (a8 : Int32) (h : xH) : S emV kX7_end h0 298 [(0, .ref a0), (1, .long a1), (3, .long a3), (6, .int a6), (7, .int a7), (8, .int a8)] [] h (fX7_end_b298  a0 a1 a3 a6 a7 a8 h) := by
  unfold fX7_end_b298
  refine s_iload (pc := 298) (i := 8) 5 rfl (by decide +kernel) ?_
  refine s_if_eq (pc := 300) (off := 12) 312 (by decide +kernel) (by decide) (fun _ => ?_) (fun _ => ?_)
  · refine S_sub [0, 1, 2, 3] rfl ?_
    exact pX7_end_b312 a0 a1 a3 a6 h
  · refine s_aload_n (pc := 303) (k0 := 0) (i := 0) rfl 0 rfl (by decide +kernel) ?_
    refine s_lload_n (pc := 304) (k0 := 1) (i := 1) rfl 1 rfl (by decide +kernel) ?_
    refine s_lload_n (pc := 305) (k0 := 3) (i := 3) rfl 2 rfl (by decide +kernel) ?_
    refine s_iload (pc := 306) (i := 7) 4 rfl (by decide +kernel) ?_
    refine s_iconst (pc := 308) (n := 0) (v := (0 : Int32)) (by decide) (by decide +kernel) ?_
    refine S_gd (fun c1 => ?_)
    refine s_cVv (pc := 309) [.long a1, .long a3, .int a7, .int (0 : Int32)] (tX7_knot a0 a1 a3 a7 (0 : Int32) h) c1 cw_X7_237 rfl ⟨⟨Nat.le_of_ble_eq_true rfl, Nat.le_of_ble_eq_true rfl⟩, Nat.le_of_ble_eq_true rfl⟩ rfl (by decide +kernel) (fun _ g2 e3 => ?_)
    refine S_sub [0, 1, 2, 3] rfl ?_
    exact pX7_end_b312 a0 a1 a3 a6 g2
theorem pX7_end_b220 {h0 : xH}   (s0 : Int32) (a0 : Nat) (a1 : Int64) (a3 : Int64) (a5 : Int32) (a6 : Int32) (a7 : Int32) (a8 : Int32) (h : xH) : S emV kX7_end h0 220 [(0, .ref a0), (1, .long a1), (3, .long a3), (5, .int a5), (6, .int a6), (7, .int a7), (8, .int a8)] [.int s0] h (fX7_end_b220 s0 a0 a1 a3 a5 a6 a7 a8 h) := by
  unfold fX7_end_b220
  refine s_istore (pc := 220) (L' := [(9, .int s0), (0, .ref a0), (1, .long a1), (3, .long a3), (5, .int a5), (6, .int a6), (7, .int a7), (8, .int a8)]) (i := 9) (by decide) rfl (by decide +kernel) ?_
  refine s_iload (pc := 222) (i := 9) 0 rfl (by decide +kernel) ?_
  refine s_if_eq (pc := 224) (off := 59) 283 (by decide +kernel) (by decide) (fun _ => ?_) (fun _ => ?_)
  · refine s_iload (pc := 283) (i := 5) 4 rfl (by decide +kernel) ?_
    refine s_iconst (pc := 285) (n := -1) (v := (-1 : Int32)) (by decide) (by decide +kernel) ?_
    refine s_icmp_eq (pc := 286) (off := 12) 298 (by decide +kernel) (by decide) (fun _ => ?_) (fun _ => ?_)
    · refine S_sub [1, 2, 3, 5, 6, 7] rfl ?_
      exact pX7_end_b298 a0 a1 a3 a6 a7 a8 h
    · refine s_aload_n (pc := 289) (k0 := 0) (i := 0) rfl 1 rfl (by decide +kernel) ?_
      refine s_lload_n (pc := 290) (k0 := 1) (i := 1) rfl 2 rfl (by decide +kernel) ?_
      refine s_lload_n (pc := 291) (k0 := 3) (i := 3) rfl 3 rfl (by decide +kernel) ?_
      refine s_iload (pc := 292) (i := 5) 4 rfl (by decide +kernel) ?_
      refine s_iconst (pc := 294) (n := 0) (v := (0 : Int32)) (by decide) (by decide +kernel) ?_
      refine S_gd (fun c1 => ?_)
      refine s_cVv (pc := 295) [.long a1, .long a3, .int a5, .int (0 : Int32)] (tX7_knot a0 a1 a3 a5 (0 : Int32) h) c1 cw_X7_237 rfl ⟨⟨Nat.le_of_ble_eq_true rfl, Nat.le_of_ble_eq_true rfl⟩, Nat.le_of_ble_eq_true rfl⟩ rfl (by decide +kernel) (fun _ g2 e3 => ?_)
      refine S_sub [1, 2, 3, 5, 6, 7] rfl ?_
      exact pX7_end_b298 a0 a1 a3 a6 a7 a8 g2
  · refine s_aload_n (pc := 227) (k0 := 0) (i := 0) rfl 1 rfl (by decide +kernel) ?_
    refine S_gd (fun c4 => ?_)
    refine s_getR (pc := 228) (k := 23) c4 ft_X7_66 rfl (by decide +kernel) ?_
    refine s_iload (pc := 231) (i := 5) 4 rfl (by decide +kernel) ?_
    refine S_gd (fun c5 => ?_)
    refine S_gd (fun c6 => ?_)
    refine s_lald (pc := 233) c5 c6 (by decide +kernel) ?_
    refine s_aload_n (pc := 234) (k0 := 0) (i := 0) rfl 1 rfl (by decide +kernel) ?_
    refine s_getR (pc := 235) (k := 24) c4 ft_X7_69 rfl (by decide +kernel) ?_
    refine s_iload (pc := 238) (i := 6) 5 rfl (by decide +kernel) ?_
    refine S_gd (fun c7 => ?_)
    refine S_gd (fun c8 => ?_)
    refine s_lald (pc := 240) c7 c8 (by decide +kernel) ?_
    refine s_lmul (pc := 241) (by decide +kernel) ?_
    refine s_aload_n (pc := 242) (k0 := 0) (i := 0) rfl 1 rfl (by decide +kernel) ?_
    refine s_getR (pc := 243) (k := 23) c4 ft_X7_66 rfl (by decide +kernel) ?_
    refine s_iload (pc := 246) (i := 6) 5 rfl (by decide +kernel) ?_
    refine S_gd (fun c9 => ?_)
    refine s_lald (pc := 248) c5 c9 (by decide +kernel) ?_
    refine s_aload_n (pc := 249) (k0 := 0) (i := 0) rfl 1 rfl (by decide +kernel) ?_
    refine s_getR (pc := 250) (k := 24) c4 ft_X7_69 rfl (by decide +kernel) ?_
    refine s_iload (pc := 253) (i := 5) 4 rfl (by decide +kernel) ?_
    refine S_gd (fun c10 => ?_)
    refine s_lald (pc := 255) c7 c10 (by decide +kernel) ?_
    refine s_lmul (pc := 256) (by decide +kernel) ?_
    refine s_lcmp (pc := 257) (by decide +kernel) ?_
    refine s_if_ne (pc := 258) (off := 7) 265 (by decide +kernel) (by decide) (fun _ => ?_) (fun _ => ?_)
    · refine s_iconst (pc := 261) (n := 1) (v := (1 : Int32)) (by decide) (by decide +kernel) ?_
      refine s_goto (pc := 262) (off := 4) 266 (by decide +kernel) (by decide) ?_
      refine S_sub [1, 2, 3, 4] rfl ?_
      exact pX7_end_b266 (1 : Int32) a0 a1 a3 a5 h
    · refine s_iconst (pc := 265) (n := 0) (v := (0 : Int32)) (by decide) (by decide +kernel) ?_
      refine S_sub [1, 2, 3, 4] rfl ?_
      exact pX7_end_b266 (0 : Int32) a0 a1 a3 a5 h
theorem pX7_end_b219 {h0 : xH}    (a0 : Nat) (a1 : Int64) (a3 : Int64) (a5 : Int32) (a6 : Int32) (a7 : Int32) (a8 : Int32) (h : xH) : S emV kX7_end h0 219 [(0, .ref a0), (1, .long a1), (3, .long a3), (5, .int a5), (6, .int a6), (7, .int a7), (8, .int a8)] [] h (fX7_end_b219  a0 a1 a3 a5 a6 a7 a8 h) := by
  unfold fX7_end_b219
  refine s_iconst (pc := 219) (n := 0) (v := (0 : Int32)) (by decide) (by decide +kernel) ?_
  exact pX7_end_b220 (0 : Int32) a0 a1 a3 a5 a6 a7 a8 h
theorem pX7_end_b183 {h0 : xH}   (s0 : Int32) (a0 : Nat) (a1 : Int64) (a3 : Int64) (a5 : Int32) (a6 : Int32) (a7 : Int32) (h : xH) : S emV kX7_end h0 183 [(0, .ref a0), (1, .long a1), (3, .long a3), (5, .int a5), (6, .int a6), (7, .int a7)] [.int s0] h (fX7_end_b183 s0 a0 a1 a3 a5 a6 a7 h) := by
  unfold fX7_end_b183
  refine s_istore (pc := 183) (L' := [(8, .int s0), (0, .ref a0), (1, .long a1), (3, .long a3), (5, .int a5), (6, .int a6), (7, .int a7)]) (i := 8) (by decide) rfl (by decide +kernel) ?_
  refine s_iload (pc := 185) (i := 8) 0 rfl (by decide +kernel) ?_
  refine s_if_ne (pc := 187) (off := 32) 219 (by decide +kernel) (by decide) (fun _ => ?_) (fun _ => ?_)
  · refine s_iload (pc := 190) (i := 5) 4 rfl (by decide +kernel) ?_
    refine s_iconst (pc := 192) (n := -1) (v := (-1 : Int32)) (by decide) (by decide +kernel) ?_
    refine s_icmp_eq (pc := 193) (off := 26) 219 (by decide +kernel) (by decide) (fun _ => ?_) (fun _ => ?_)
    · refine S_sub [1, 2, 3, 4, 5, 6, 0] rfl ?_
      exact pX7_end_b219 a0 a1 a3 a5 a6 a7 s0 h
    · refine s_iload (pc := 196) (i := 6) 5 rfl (by decide +kernel) ?_
      refine s_iconst (pc := 198) (n := -1) (v := (-1 : Int32)) (by decide) (by decide +kernel) ?_
      refine s_icmp_eq (pc := 199) (off := 20) 219 (by decide +kernel) (by decide) (fun _ => ?_) (fun _ => ?_)
      · refine S_sub [1, 2, 3, 4, 5, 6, 0] rfl ?_
        exact pX7_end_b219 a0 a1 a3 a5 a6 a7 s0 h
      · refine s_aload_n (pc := 202) (k0 := 0) (i := 0) rfl 1 rfl (by decide +kernel) ?_
        refine s_iload (pc := 203) (i := 5) 4 rfl (by decide +kernel) ?_
        refine s_iload (pc := 205) (i := 6) 5 rfl (by decide +kernel) ?_
        refine s_lload_n (pc := 207) (k0 := 1) (i := 1) rfl 2 rfl (by decide +kernel) ?_
        refine s_lload_n (pc := 208) (k0 := 3) (i := 3) rfl 3 rfl (by decide +kernel) ?_
        refine S_gd (fun c1 => ?_)
        refine s_cVi (pc := 209) [.int a5, .int a6, .long a1, .long a3] (tX7_lieAt a0 a5 a6 a1 a3 h) c1 cw_X7_196 rfl ⟨⟨Nat.le_of_ble_eq_true rfl, Nat.le_of_ble_eq_true rfl⟩, Nat.le_of_ble_eq_true rfl⟩ rfl (by decide +kernel) (fun w4 g2 e3 => ?_)
        refine s_if_ne (pc := 212) (off := 7) 219 (by decide +kernel) (by decide) (fun _ => ?_) (fun _ => ?_)
        · refine s_iconst (pc := 215) (n := 1) (v := (1 : Int32)) (by decide) (by decide +kernel) ?_
          refine s_goto (pc := 216) (off := 4) 220 (by decide +kernel) (by decide) ?_
          refine S_sub [1, 2, 3, 4, 5, 6, 0] rfl ?_
          exact pX7_end_b220 (1 : Int32) a0 a1 a3 a5 a6 a7 s0 g2
        · refine S_sub [1, 2, 3, 4, 5, 6, 0] rfl ?_
          exact pX7_end_b219 a0 a1 a3 a5 a6 a7 s0 g2
  · refine S_sub [1, 2, 3, 4, 5, 6, 0] rfl ?_
    exact pX7_end_b219 a0 a1 a3 a5 a6 a7 s0 h
theorem pX7_end_b178 {h0 : xH}    (a0 : Nat) (a1 : Int64) (a3 : Int64) (a5 : Int32) (a6 : Int32) (a7 : Int32) (h : xH) : S emV kX7_end h0 178 [(0, .ref a0), (1, .long a1), (3, .long a3), (5, .int a5), (6, .int a6), (7, .int a7)] [] h (fX7_end_b178  a0 a1 a3 a5 a6 a7 h) := by
  unfold fX7_end_b178
  refine s_iconst (pc := 178) (n := 1) (v := (1 : Int32)) (by decide) (by decide +kernel) ?_
  refine s_goto (pc := 179) (off := 4) 183 (by decide +kernel) (by decide) ?_
  exact pX7_end_b183 (1 : Int32) a0 a1 a3 a5 a6 a7 h
theorem pX7_end_b182 {h0 : xH}    (a0 : Nat) (a1 : Int64) (a3 : Int64) (a5 : Int32) (a6 : Int32) (a7 : Int32) (h : xH) : S emV kX7_end h0 182 [(0, .ref a0), (1, .long a1), (3, .long a3), (5, .int a5), (6, .int a6), (7, .int a7)] [] h (fX7_end_b182  a0 a1 a3 a5 a6 a7 h) := by
  unfold fX7_end_b182
  refine s_iconst (pc := 182) (n := 0) (v := (0 : Int32)) (by decide) (by decide +kernel) ?_
  exact pX7_end_b183 (0 : Int32) a0 a1 a3 a5 a6 a7 h
theorem pX7_end_b159 {h0 : xH}    (a0 : Nat) (a1 : Int64) (a3 : Int64) (a5 : Int32) (a6 : Int32) (a7 : Int32) (h : xH) : S emV kX7_end h0 159 [(0, .ref a0), (1, .long a1), (3, .long a3), (5, .int a5), (6, .int a6), (7, .int a7)] [] h (fX7_end_b159  a0 a1 a3 a5 a6 a7 h) := by
  unfold fX7_end_b159
  refine s_iload (pc := 159) (i := 6) 4 rfl (by decide +kernel) ?_
  refine s_iconst (pc := 161) (n := -1) (v := (-1 : Int32)) (by decide) (by decide +kernel) ?_
  refine s_icmp_eq (pc := 162) (off := 16) 178 (by decide +kernel) (by decide) (fun _ => ?_) (fun _ => ?_)
  · exact pX7_end_b178 a0 a1 a3 a5 a6 a7 h
  · refine s_aload_n (pc := 165) (k0 := 0) (i := 0) rfl 0 rfl (by decide +kernel) ?_
    refine s_iload (pc := 166) (i := 7) 5 rfl (by decide +kernel) ?_
    refine s_iload (pc := 168) (i := 6) 4 rfl (by decide +kernel) ?_
    refine s_lload_n (pc := 170) (k0 := 1) (i := 1) rfl 1 rfl (by decide +kernel) ?_
    refine s_lload_n (pc := 171) (k0 := 3) (i := 3) rfl 2 rfl (by decide +kernel) ?_
    refine S_gd (fun c1 => ?_)
    refine s_cVi (pc := 172) [.int a7, .int a6, .long a1, .long a3] (tX7_lieAt a0 a7 a6 a1 a3 h) c1 cw_X7_196 rfl ⟨⟨Nat.le_of_ble_eq_true rfl, Nat.le_of_ble_eq_true rfl⟩, Nat.le_of_ble_eq_true rfl⟩ rfl (by decide +kernel) (fun w4 g2 e3 => ?_)
    refine s_if_ge (pc := 175) (off := 7) 182 (by decide +kernel) (by decide) (fun _ => ?_) (fun _ => ?_)
    · exact pX7_end_b182 a0 a1 a3 a5 a6 a7 g2
    · exact pX7_end_b178 a0 a1 a3 a5 a6 a7 g2
theorem pX7_end_b9 {h0 : xH} {r9 : Nat → Int64 → Int64 → Int32 → Int32 → Int32 → xH → Option (Unit × xH)} (hr9 : ∀  (a0 : Nat) (a1 : Int64) (a3 : Int64) (a5 : Int32) (a6 : Int32) (a7 : Int32) (g : xH), S emV kX7_end h0 9 [(0, .ref a0), (1, .long a1), (3, .long a3), (5, .int a5), (6, .int a6), (7, .int a7)] [] g (r9  a0 a1 a3 a5 a6 a7 g))  (a0 : Nat) (a1 : Int64) (a3 : Int64) (a5 : Int32) (a6 : Int32) (a7 : Int32) (h : xH) : S emV kX7_end h0 9 [(0, .ref a0), (1, .long a1), (3, .long a3), (5, .int a5), (6, .int a6), (7, .int a7)] [] h (fX7_end_b9 r9 a0 a1 a3 a5 a6 a7 h) := by
  unfold fX7_end_b9
  refine s_iload (pc := 9) (i := 7) 5 rfl (by decide +kernel) ?_
  refine s_aload_n (pc := 11) (k0 := 0) (i := 0) rfl 0 rfl (by decide +kernel) ?_
  refine S_gd (fun c1 => ?_)
  refine s_getI (pc := 12) (k := 27) c1 ft_X7_209 rfl (by decide +kernel) ?_
  refine s_icmp_ge (pc := 15) (off := 117) 132 (by decide +kernel) (by decide) (fun _ => ?_) (fun _ => ?_)
  · refine s_aload_n (pc := 132) (k0 := 0) (i := 0) rfl 0 rfl (by decide +kernel) ?_
    refine s_lload_n (pc := 133) (k0 := 1) (i := 1) rfl 1 rfl (by decide +kernel) ?_
    refine s_lload_n (pc := 134) (k0 := 3) (i := 3) rfl 2 rfl (by decide +kernel) ?_
    refine s_cVi (pc := 135) [.long a1, .long a3] (tX7_leastAt a0 a1 a3 h) c1 cw_X7_233 rfl ⟨⟨Nat.le_of_ble_eq_true rfl, Nat.le_of_ble_eq_true rfl⟩, Nat.le_of_ble_eq_true rfl⟩ rfl (by decide +kernel) (fun w4 g2 e3 => ?_)
    refine s_istore (pc := 138) (L' := [(7, .int w4), (0, .ref a0), (1, .long a1), (3, .long a3), (5, .int a5), (6, .int a6)]) (i := 7) (by decide) rfl (by decide +kernel) ?_
    refine s_iload (pc := 140) (i := 5) 4 rfl (by decide +kernel) ?_
    refine s_iconst (pc := 142) (n := -1) (v := (-1 : Int32)) (by decide) (by decide +kernel) ?_
    refine s_icmp_eq (pc := 143) (off := 16) 159 (by decide +kernel) (by decide) (fun _ => ?_) (fun _ => ?_)
    · refine S_sub [1, 2, 3, 4, 5, 0] rfl ?_
      exact pX7_end_b159 a0 a1 a3 a5 a6 w4 g2
    · refine s_aload_n (pc := 146) (k0 := 0) (i := 0) rfl 1 rfl (by decide +kernel) ?_
      refine s_iload (pc := 147) (i := 7) 0 rfl (by decide +kernel) ?_
      refine s_iload (pc := 149) (i := 5) 4 rfl (by decide +kernel) ?_
      refine s_lload_n (pc := 151) (k0 := 1) (i := 1) rfl 2 rfl (by decide +kernel) ?_
      refine s_lload_n (pc := 152) (k0 := 3) (i := 3) rfl 3 rfl (by decide +kernel) ?_
      have c5 := kp e3 c1 (by decide)
      refine s_cVi (pc := 153) [.int w4, .int a5, .long a1, .long a3] (tX7_lieAt a0 w4 a5 a1 a3 g2) c5 cw_X7_196 rfl ⟨⟨Nat.le_of_ble_eq_true rfl, Nat.le_of_ble_eq_true rfl⟩, Nat.le_of_ble_eq_true rfl⟩ rfl (by decide +kernel) (fun w8 g6 e7 => ?_)
      refine s_if_ge (pc := 156) (off := 26) 182 (by decide +kernel) (by decide) (fun _ => ?_) (fun _ => ?_)
      · refine S_sub [1, 2, 3, 4, 5, 0] rfl ?_
        exact pX7_end_b182 a0 a1 a3 a5 a6 w4 g6
      · refine S_sub [1, 2, 3, 4, 5, 0] rfl ?_
        exact pX7_end_b159 a0 a1 a3 a5 a6 w4 g6
  · refine s_iconst (pc := 18) (n := 5) (v := (5 : Int32)) (by decide) (by decide +kernel) ?_
    refine s_iload (pc := 19) (i := 7) 5 rfl (by decide +kernel) ?_
    refine s_imul (pc := 21) (by decide +kernel) ?_
    refine s_nmI (fun v9 => ?_)
    refine s_istore (pc := 22) (L' := [(8, .int v9), (0, .ref a0), (1, .long a1), (3, .long a3), (5, .int a5), (6, .int a6), (7, .int a7)]) (i := 8) (by decide) rfl (by decide +kernel) ?_
    refine s_aload_n (pc := 24) (k0 := 0) (i := 0) rfl 1 rfl (by decide +kernel) ?_
    refine s_getR (pc := 25) (k := 28) c1 ft_X7_75 rfl (by decide +kernel) ?_
    refine s_iload (pc := 28) (i := 8) 0 rfl (by decide +kernel) ?_
    refine S_gd (fun c10 => ?_)
    refine S_gd (fun c11 => ?_)
    refine s_lald (pc := 30) c10 c11 (by decide +kernel) ?_
    refine s_aload_n (pc := 31) (k0 := 0) (i := 0) rfl 1 rfl (by decide +kernel) ?_
    refine s_getR (pc := 32) (k := 28) c1 ft_X7_75 rfl (by decide +kernel) ?_
    refine s_iload (pc := 35) (i := 8) 0 rfl (by decide +kernel) ?_
    refine s_iconst (pc := 37) (n := 1) (v := (1 : Int32)) (by decide) (by decide +kernel) ?_
    refine s_iadd (pc := 38) (by decide +kernel) ?_
    refine S_gd (fun c12 => ?_)
    refine s_lald (pc := 39) c10 c12 (by decide +kernel) ?_
    refine s_lload_n (pc := 40) (k0 := 1) (i := 1) rfl 2 rfl (by decide +kernel) ?_
    refine s_lload_n (pc := 41) (k0 := 3) (i := 3) rfl 3 rfl (by decide +kernel) ?_
    refine s_cSi (pc := 42) [.long (hJ h (hR h a0 28) v9.toNatClampNeg), .long (hJ h (hR h a0 28) (v9 + (1 : Int32)).toNatClampNeg), .long a1, .long a3] (tX7_lie (hJ h (hR h a0 28) v9.toNatClampNeg) (hJ h (hR h a0 28) (v9 + (1 : Int32)).toNatClampNeg) a1 a3 h) cw_X7_189 rfl ⟨⟨Nat.le_of_ble_eq_true rfl, Nat.le_of_ble_eq_true rfl⟩, Nat.le_of_ble_eq_true rfl⟩ rfl (by decide +kernel) (fun w15 g13 e14 => ?_)
    refine s_istore (pc := 45) (L' := [(9, .int w15), (8, .int v9), (0, .ref a0), (1, .long a1), (3, .long a3), (5, .int a5), (6, .int a6), (7, .int a7)]) (i := 9) (by decide) rfl (by decide +kernel) ?_
    refine s_aload_n (pc := 47) (k0 := 0) (i := 0) rfl 2 rfl (by decide +kernel) ?_
    have c16 := kp e14 c1 (by decide)
    refine s_getR (pc := 48) (k := 28) c16 ft_X7_75 rfl (by decide +kernel) ?_
    refine s_iload (pc := 51) (i := 8) 1 rfl (by decide +kernel) ?_
    refine s_iconst (pc := 53) (n := 2) (v := (2 : Int32)) (by decide) (by decide +kernel) ?_
    refine s_iadd (pc := 54) (by decide +kernel) ?_
    refine S_gd (fun c17 => ?_)
    refine S_gd (fun c18 => ?_)
    refine s_lald (pc := 55) c17 c18 (by decide +kernel) ?_
    refine s_aload_n (pc := 56) (k0 := 0) (i := 0) rfl 2 rfl (by decide +kernel) ?_
    refine s_getR (pc := 57) (k := 28) c16 ft_X7_75 rfl (by decide +kernel) ?_
    refine s_iload (pc := 60) (i := 8) 1 rfl (by decide +kernel) ?_
    refine s_iconst (pc := 62) (n := 3) (v := (3 : Int32)) (by decide) (by decide +kernel) ?_
    refine s_iadd (pc := 63) (by decide +kernel) ?_
    refine S_gd (fun c19 => ?_)
    refine s_lald (pc := 64) c17 c19 (by decide +kernel) ?_
    refine s_lload_n (pc := 65) (k0 := 1) (i := 1) rfl 3 rfl (by decide +kernel) ?_
    refine s_lload_n (pc := 66) (k0 := 3) (i := 3) rfl 4 rfl (by decide +kernel) ?_
    refine s_cSi (pc := 67) [.long (hJ g13 (hR g13 a0 28) (v9 + (2 : Int32)).toNatClampNeg), .long (hJ g13 (hR g13 a0 28) (v9 + (3 : Int32)).toNatClampNeg), .long a1, .long a3] (tX7_lie (hJ g13 (hR g13 a0 28) (v9 + (2 : Int32)).toNatClampNeg) (hJ g13 (hR g13 a0 28) (v9 + (3 : Int32)).toNatClampNeg) a1 a3 g13) cw_X7_189 rfl ⟨⟨Nat.le_of_ble_eq_true rfl, Nat.le_of_ble_eq_true rfl⟩, Nat.le_of_ble_eq_true rfl⟩ rfl (by decide +kernel) (fun w22 g20 e21 => ?_)
    refine s_istore (pc := 70) (L' := [(10, .int w22), (9, .int w15), (8, .int v9), (0, .ref a0), (1, .long a1), (3, .long a3), (5, .int a5), (6, .int a6), (7, .int a7)]) (i := 10) (by decide) rfl (by decide +kernel) ?_
    refine s_iload (pc := 72) (i := 9) 1 rfl (by decide +kernel) ?_
    refine s_if_ge (pc := 74) (off := 21) 95 (by decide +kernel) (by decide) (fun _ => ?_) (fun _ => ?_)
    · refine S_sub [3, 4, 5, 6, 7, 8, 2, 1, 0] rfl ?_
      exact pX7_end_b95 hr9 a0 a1 a3 a5 a6 a7 v9 w15 w22 g20
    · refine s_iload (pc := 77) (i := 10) 0 rfl (by decide +kernel) ?_
      refine s_if_lt (pc := 79) (off := 16) 95 (by decide +kernel) (by decide) (fun _ => ?_) (fun _ => ?_)
      · refine S_sub [3, 4, 5, 6, 7, 8, 2, 1, 0] rfl ?_
        exact pX7_end_b95 hr9 a0 a1 a3 a5 a6 a7 v9 w15 w22 g20
      · refine s_aload_n (pc := 82) (k0 := 0) (i := 0) rfl 3 rfl (by decide +kernel) ?_
        have c23 := kp e21 c16 (by decide)
        refine s_getR (pc := 83) (k := 28) c23 ft_X7_75 rfl (by decide +kernel) ?_
        refine s_iload (pc := 86) (i := 8) 2 rfl (by decide +kernel) ?_
        refine s_iconst (pc := 88) (n := 4) (v := (4 : Int32)) (by decide) (by decide +kernel) ?_
        refine s_iadd (pc := 89) (by decide +kernel) ?_
        refine S_gd (fun c24 => ?_)
        refine S_gd (fun c25 => ?_)
        refine s_lald (pc := 90) c24 c25 (by decide +kernel) ?_
        refine s_l2i (pc := 91) (by decide +kernel) ?_
        refine s_goto (pc := 92) (off := 5) 97 (by decide +kernel) (by decide) ?_
        refine S_sub [3, 4, 5, 7, 8, 2, 1, 0] rfl ?_
        exact pX7_end_b97 hr9 ((hJ g20 (hR g20 a0 28) (v9 + (4 : Int32)).toNatClampNeg).toInt32) a0 a1 a3 a6 a7 v9 w15 w22 g20
theorem pX7_end_l9 {h0 : xH}   : ∀ (k : Nat)  (a0 : Nat) (a1 : Int64) (a3 : Int64) (a5 : Int32) (a6 : Int32) (a7 : Int32) (h : xH), S emV kX7_end h0 9 [(0, .ref a0), (1, .long a1), (3, .long a3), (5, .int a5), (6, .int a6), (7, .int a7)] [] h (fX7_end_l9  k  a0 a1 a3 a5 a6 a7 h) := by
  intro k
  induction k with
  | zero => intros; exact S_none
  | succ k ih => intro  a0 a1 a3 a5 a6 a7 h; exact pX7_end_b9 ih  a0 a1 a3 a5 a6 a7 h
theorem pX7_end_e    (a0 : Nat) (a1 : Int64) (a3 : Int64) (h : xH) : S emV kX7_end h 0 [(0, .ref a0), (1, .long a1), (3, .long a3)] [] h (fX7_end  a0 a1 a3 h) := by
  unfold fX7_end
  refine s_iconst (pc := 0) (n := -1) (v := (-1 : Int32)) (by decide) (by decide +kernel) ?_
  refine s_nmI (fun v1 => ?_)
  refine s_istore (pc := 1) (L' := [(5, .int v1), (0, .ref a0), (1, .long a1), (3, .long a3)]) (i := 5) (by decide) rfl (by decide +kernel) ?_
  refine s_iconst (pc := 3) (n := -1) (v := (-1 : Int32)) (by decide) (by decide +kernel) ?_
  refine s_nmI (fun v2 => ?_)
  refine s_istore (pc := 4) (L' := [(6, .int v2), (5, .int v1), (0, .ref a0), (1, .long a1), (3, .long a3)]) (i := 6) (by decide) rfl (by decide +kernel) ?_
  refine s_iconst (pc := 6) (n := 0) (v := (0 : Int32)) (by decide) (by decide +kernel) ?_
  refine s_nmI (fun v3 => ?_)
  refine s_istore (pc := 7) (L' := [(7, .int v3), (6, .int v2), (5, .int v1), (0, .ref a0), (1, .long a1), (3, .long a3)]) (i := 7) (by decide) rfl (by decide +kernel) ?_
  refine S_sub [3, 4, 5, 2, 1, 0] rfl ?_
  exact pX7_end_l9 FU a0 a1 a3 v1 v2 v3 h
theorem tX7_end (a0 : Nat) (a1 : Int64) (a3 : Int64) (h : xH) : Ct yX7_end kX7_end emV [.ref a0, .long a1, .long a3] h (fX7_end a0 a1 a3 h) := Ct_of (by decide +kernel) rfl rfl rfl (Nat.le_of_ble_eq_true rfl) rfl (pX7_end_e a0 a1 a3 h)
def fX7_layPaper_b35 (r7 : Nat → Int32 → xH → Option (Unit × xH))  (a0 : Nat) (a1 : Int32) (h : xH) : Option (Unit × xH) :=
  lt (a1 + (1 : Int32)) (fun v1 =>
  r7 a0 v1 h)
def fX7_layPaper_b52 (r52 : Nat → Int32 → xH → Option (Unit × xH))  (a0 : Nat) (a1 : Int32) (h : xH) : Option (Unit × xH) :=
  if kc h a0 = 7 then
  if (hI h a0 31) ≤ a1 then (
  some ((), h))
  else (
  if kc h (hR h a0 32) = 9 then
  if ix ((2 : Int32) * a1) (kl h (hR h a0 32)) then
  if ix (((2 : Int32) * a1) + (1 : Int32)) (kl h (hR h a0 32)) then
  bd (fX7_end a0 (hJ h (hR h a0 32) ((2 : Int32) * a1).toNatClampNeg) (hJ h (hR h a0 32) (((2 : Int32) * a1) + (1 : Int32)).toNatClampNeg) h) (fun _ g5 =>
  lt (a1 + (1 : Int32)) (fun v7 =>
  r52 a0 v7 g5))
  else none
  else none
  else none)
  else none
def fX7_layPaper_l52  : Nat → Nat → Int32 → xH → Option (Unit × xH)
  | 0 => fun _ _ _ => none
  | k + 1 => fX7_layPaper_b52 (fX7_layPaper_l52  k)
def fX7_layPaper_b7 (r7 : Nat → Int32 → xH → Option (Unit × xH))  (a0 : Nat) (a1 : Int32) (h : xH) : Option (Unit × xH) :=
  if kc h a0 = 7 then
  if (hI h a0 19) ≤ a1 then (
  bd (fX7_layBreaks a0 h) (fun _ g2 =>
  lt (sI g2 a0 4 (0 : Int32)) (fun g5 =>
  lt (0 : Int32) (fun v7 =>
  fX7_layPaper_l52 FU a0 v7 g5))))
  else (
  if kc h (hR h a0 20) = 8 then
  if ix a1 (kl h (hR h a0 20)) then
  if kc h (hR h a0 21) = 8 then
  if ix a1 (kl h (hR h a0 21)) then
  if (hI h (hR h a0 21) a1.toNatClampNeg) ≤ (hI h (hR h a0 20) a1.toNatClampNeg) then (
  fX7_layPaper_b35 r7 a0 a1 h)
  else (
  bd (fX7_under a0 a1 h) (fun _ g12 =>
  fX7_layPaper_b35 r7 a0 a1 g12))
  else none
  else none
  else none
  else none)
  else none
def fX7_layPaper_l7  : Nat → Nat → Int32 → xH → Option (Unit × xH)
  | 0 => fun _ _ _ => none
  | k + 1 => fX7_layPaper_b7 (fX7_layPaper_l7  k)
def fX7_layPaper   (a0 : Nat) (h : xH) : Option (Unit × xH) :=
  if kc h a0 = 7 then
  lt (sI h a0 27 (0 : Int32)) (fun g2 =>
  lt (0 : Int32) (fun v4 =>
  fX7_layPaper_l7 FU a0 v4 g2))
  else none
theorem pX7_layPaper_b35 {h0 : xH} {r7 : Nat → Int32 → xH → Option (Unit × xH)} (hr7 : ∀  (a0 : Nat) (a1 : Int32) (g : xH), S emV kX7_layPaper h0 7 [(0, .ref a0), (1, .int a1)] [] g (r7  a0 a1 g))  (a0 : Nat) (a1 : Int32) (h : xH) : S emV kX7_layPaper h0 35 [(0, .ref a0), (1, .int a1)] [] h (fX7_layPaper_b35 r7 a0 a1 h) := by
  unfold fX7_layPaper_b35
  refine s_iinc (pc := 35) (L' := [(1, .int (a1 + (1 : Int32))), (0, .ref a0)]) (i := 1) (n := 1) 1 rfl rfl (by decide) rfl (by decide +kernel) ?_
  refine s_nmI0 (e := a1 + (1 : Int32)) (L := fun v1 => [(1, .int v1), (0, .ref a0)]) (fun v1 => ?_)
  refine s_goto (pc := 38) (off := -31) 7 (by decide +kernel) (by decide) ?_
  refine S_sub [1, 0] rfl ?_
  exact hr7 a0 v1 h
theorem pX7_layPaper_b52 {h0 : xH} {r52 : Nat → Int32 → xH → Option (Unit × xH)} (hr52 : ∀  (a0 : Nat) (a1 : Int32) (g : xH), S emV kX7_layPaper h0 52 [(0, .ref a0), (1, .int a1)] [] g (r52  a0 a1 g))  (a0 : Nat) (a1 : Int32) (h : xH) : S emV kX7_layPaper h0 52 [(0, .ref a0), (1, .int a1)] [] h (fX7_layPaper_b52 r52 a0 a1 h) := by
  unfold fX7_layPaper_b52
  refine s_iload_n (pc := 52) (k0 := 1) (i := 1) rfl 1 rfl (by decide +kernel) ?_
  refine s_aload_n (pc := 53) (k0 := 0) (i := 0) rfl 0 rfl (by decide +kernel) ?_
  refine S_gd (fun c1 => ?_)
  refine s_getI (pc := 54) (k := 31) c1 ft_X7_216 rfl (by decide +kernel) ?_
  refine s_icmp_ge (pc := 57) (off := 31) 88 (by decide +kernel) (by decide) (fun _ => ?_) (fun _ => ?_)
  · exact s_vret (pc := 88) rfl (by decide +kernel)
  · refine s_aload_n (pc := 60) (k0 := 0) (i := 0) rfl 0 rfl (by decide +kernel) ?_
    refine s_aload_n (pc := 61) (k0 := 0) (i := 0) rfl 0 rfl (by decide +kernel) ?_
    refine s_getR (pc := 62) (k := 32) c1 ft_X7_81 rfl (by decide +kernel) ?_
    refine s_iconst (pc := 65) (n := 2) (v := (2 : Int32)) (by decide) (by decide +kernel) ?_
    refine s_iload_n (pc := 66) (k0 := 1) (i := 1) rfl 1 rfl (by decide +kernel) ?_
    refine s_imul (pc := 67) (by decide +kernel) ?_
    refine S_gd (fun c2 => ?_)
    refine S_gd (fun c3 => ?_)
    refine s_lald (pc := 68) c2 c3 (by decide +kernel) ?_
    refine s_aload_n (pc := 69) (k0 := 0) (i := 0) rfl 0 rfl (by decide +kernel) ?_
    refine s_getR (pc := 70) (k := 32) c1 ft_X7_81 rfl (by decide +kernel) ?_
    refine s_iconst (pc := 73) (n := 2) (v := (2 : Int32)) (by decide) (by decide +kernel) ?_
    refine s_iload_n (pc := 74) (k0 := 1) (i := 1) rfl 1 rfl (by decide +kernel) ?_
    refine s_imul (pc := 75) (by decide +kernel) ?_
    refine s_iconst (pc := 76) (n := 1) (v := (1 : Int32)) (by decide) (by decide +kernel) ?_
    refine s_iadd (pc := 77) (by decide +kernel) ?_
    refine S_gd (fun c4 => ?_)
    refine s_lald (pc := 78) c2 c4 (by decide +kernel) ?_
    refine s_cVv (pc := 79) [.long (hJ h (hR h a0 32) ((2 : Int32) * a1).toNatClampNeg), .long (hJ h (hR h a0 32) (((2 : Int32) * a1) + (1 : Int32)).toNatClampNeg)] (tX7_end a0 (hJ h (hR h a0 32) ((2 : Int32) * a1).toNatClampNeg) (hJ h (hR h a0 32) (((2 : Int32) * a1) + (1 : Int32)).toNatClampNeg) h) c1 cw_X7_230 rfl ⟨⟨Nat.le_of_ble_eq_true rfl, Nat.le_of_ble_eq_true rfl⟩, Nat.le_of_ble_eq_true rfl⟩ rfl (by decide +kernel) (fun _ g5 e6 => ?_)
    refine s_iinc (pc := 82) (L' := [(1, .int (a1 + (1 : Int32))), (0, .ref a0)]) (i := 1) (n := 1) 1 rfl rfl (by decide) rfl (by decide +kernel) ?_
    refine s_nmI0 (e := a1 + (1 : Int32)) (L := fun v7 => [(1, .int v7), (0, .ref a0)]) (fun v7 => ?_)
    refine s_goto (pc := 85) (off := -33) 52 (by decide +kernel) (by decide) ?_
    refine S_sub [1, 0] rfl ?_
    exact hr52 a0 v7 g5
theorem pX7_layPaper_l52 {h0 : xH}   : ∀ (k : Nat)  (a0 : Nat) (a1 : Int32) (h : xH), S emV kX7_layPaper h0 52 [(0, .ref a0), (1, .int a1)] [] h (fX7_layPaper_l52  k  a0 a1 h) := by
  intro k
  induction k with
  | zero => intros; exact S_none
  | succ k ih => intro  a0 a1 h; exact pX7_layPaper_b52 ih  a0 a1 h
theorem pX7_layPaper_b7 {h0 : xH} {r7 : Nat → Int32 → xH → Option (Unit × xH)} (hr7 : ∀  (a0 : Nat) (a1 : Int32) (g : xH), S emV kX7_layPaper h0 7 [(0, .ref a0), (1, .int a1)] [] g (r7  a0 a1 g))  (a0 : Nat) (a1 : Int32) (h : xH) : S emV kX7_layPaper h0 7 [(0, .ref a0), (1, .int a1)] [] h (fX7_layPaper_b7 r7 a0 a1 h) := by
  unfold fX7_layPaper_b7
  refine s_iload_n (pc := 7) (k0 := 1) (i := 1) rfl 1 rfl (by decide +kernel) ?_
  refine s_aload_n (pc := 8) (k0 := 0) (i := 0) rfl 0 rfl (by decide +kernel) ?_
  refine S_gd (fun c1 => ?_)
  refine s_getI (pc := 9) (k := 19) c1 ft_X7_158 rfl (by decide +kernel) ?_
  refine s_icmp_ge (pc := 12) (off := 29) 41 (by decide +kernel) (by decide) (fun _ => ?_) (fun _ => ?_)
  · refine s_aload_n (pc := 41) (k0 := 0) (i := 0) rfl 0 rfl (by decide +kernel) ?_
    refine s_cVv (pc := 42) [] (tX7_layBreaks a0 h) c1 cw_X7_227 rfl ⟨⟨Nat.le_of_ble_eq_true rfl, Nat.le_of_ble_eq_true rfl⟩, Nat.le_of_ble_eq_true rfl⟩ rfl (by decide +kernel) (fun _ g2 e3 => ?_)
    refine s_aload_n (pc := 45) (k0 := 0) (i := 0) rfl 0 rfl (by decide +kernel) ?_
    refine s_iconst (pc := 46) (n := 0) (v := (0 : Int32)) (by decide) (by decide +kernel) ?_
    have c4 := kp e3 c1 (by decide)
    refine s_putI (pc := 47) (k := 4) c4 ft_X7_125 (fw_7_4 _ _) rfl rfl (by decide +kernel) ?_
    refine s_nmH (o := g2) rfl (fun g5 e6 => ?_)
    refine s_iconst (pc := 50) (n := 0) (v := (0 : Int32)) (by decide) (by decide +kernel) ?_
    refine s_nmI (fun v7 => ?_)
    refine s_istore_n (pc := 51) (L' := [(1, .int v7), (0, .ref a0)]) (k0 := 1) (i := 1) rfl (by decide) rfl (by decide +kernel) ?_
    refine S_sub [1, 0] rfl ?_
    exact pX7_layPaper_l52 FU a0 v7 g5
  · refine s_aload_n (pc := 15) (k0 := 0) (i := 0) rfl 0 rfl (by decide +kernel) ?_
    refine s_getR (pc := 16) (k := 20) c1 ft_X7_57 rfl (by decide +kernel) ?_
    refine s_iload_n (pc := 19) (k0 := 1) (i := 1) rfl 1 rfl (by decide +kernel) ?_
    refine S_gd (fun c8 => ?_)
    refine S_gd (fun c9 => ?_)
    refine s_iald (pc := 20) c8 c9 (by decide +kernel) ?_
    refine s_aload_n (pc := 21) (k0 := 0) (i := 0) rfl 0 rfl (by decide +kernel) ?_
    refine s_getR (pc := 22) (k := 21) c1 ft_X7_60 rfl (by decide +kernel) ?_
    refine s_iload_n (pc := 25) (k0 := 1) (i := 1) rfl 1 rfl (by decide +kernel) ?_
    refine S_gd (fun c10 => ?_)
    refine S_gd (fun c11 => ?_)
    refine s_iald (pc := 26) c10 c11 (by decide +kernel) ?_
    refine s_icmp_ge (pc := 27) (off := 8) 35 (by decide +kernel) (by decide) (fun _ => ?_) (fun _ => ?_)
    · exact pX7_layPaper_b35 hr7 a0 a1 h
    · refine s_aload_n (pc := 30) (k0 := 0) (i := 0) rfl 0 rfl (by decide +kernel) ?_
      refine s_iload_n (pc := 31) (k0 := 1) (i := 1) rfl 1 rfl (by decide +kernel) ?_
      refine s_cVv (pc := 32) [.int a1] (tX7_under a0 a1 h) c1 cw_X7_223 rfl ⟨⟨Nat.le_of_ble_eq_true rfl, Nat.le_of_ble_eq_true rfl⟩, Nat.le_of_ble_eq_true rfl⟩ rfl (by decide +kernel) (fun _ g12 e13 => ?_)
      exact pX7_layPaper_b35 hr7 a0 a1 g12
theorem pX7_layPaper_l7 {h0 : xH}   : ∀ (k : Nat)  (a0 : Nat) (a1 : Int32) (h : xH), S emV kX7_layPaper h0 7 [(0, .ref a0), (1, .int a1)] [] h (fX7_layPaper_l7  k  a0 a1 h) := by
  intro k
  induction k with
  | zero => intros; exact S_none
  | succ k ih => intro  a0 a1 h; exact pX7_layPaper_b7 ih  a0 a1 h
theorem pX7_layPaper_e    (a0 : Nat) (h : xH) : S emV kX7_layPaper h 0 [(0, .ref a0)] [] h (fX7_layPaper  a0 h) := by
  unfold fX7_layPaper
  refine s_aload_n (pc := 0) (k0 := 0) (i := 0) rfl 0 rfl (by decide +kernel) ?_
  refine s_iconst (pc := 1) (n := 0) (v := (0 : Int32)) (by decide) (by decide +kernel) ?_
  refine S_gd (fun c1 => ?_)
  refine s_putI (pc := 2) (k := 27) c1 ft_X7_209 (fw_7_27 _ _) rfl rfl (by decide +kernel) ?_
  refine s_nmH (o := h) rfl (fun g2 e3 => ?_)
  refine s_iconst (pc := 5) (n := 0) (v := (0 : Int32)) (by decide) (by decide +kernel) ?_
  refine s_nmI (fun v4 => ?_)
  refine s_istore_n (pc := 6) (L' := [(1, .int v4), (0, .ref a0)]) (k0 := 1) (i := 1) rfl (by decide) rfl (by decide +kernel) ?_
  refine S_sub [1, 0] rfl ?_
  exact pX7_layPaper_l7 FU a0 v4 g2
theorem tX7_layPaper (a0 : Nat) (h : xH) : Ct yX7_layPaper kX7_layPaper emV [.ref a0] h (fX7_layPaper a0 h) := Ct_of (by decide +kernel) rfl rfl rfl (Nat.le_of_ble_eq_true rfl) rfl (pX7_layPaper_e a0 h)
def fX7_store_b131 (r15 : Nat → Int32 → Int32 → xH → Option (Unit × xH)) (s0 : Int32) (s1 : Int32) (s2 : Nat) (a0 : Nat) (a1 : Int32) (a2 : Int32) (h : xH) : Option (Unit × xH) :=
  if kc h s2 = 8 then
  if ix s1 (kl h s2) then
  lt (sI h s2 s1.toNatClampNeg s0) (fun g3 =>
  lt (a2 + (1 : Int32)) (fun v5 =>
  r15 a0 a1 v5 g3))
  else none
  else none
def fX7_store_b130 (r15 : Nat → Int32 → Int32 → xH → Option (Unit × xH)) (s0 : Int32) (s1 : Nat) (a0 : Nat) (a1 : Int32) (a2 : Int32) (h : xH) : Option (Unit × xH) :=
  fX7_store_b131 r15 (0 : Int32) s0 s1 a0 a1 a2 h
def fX7_store_b94 (r15 : Nat → Int32 → Int32 → xH → Option (Unit × xH)) (s0 : Int32) (s1 : Int32) (s2 : Nat) (a0 : Nat) (a1 : Int32) (a2 : Int32) (h : xH) : Option (Unit × xH) :=
  if kc h s2 = 8 then
  if ix s1 (kl h s2) then
  lt (sI h s2 s1.toNatClampNeg s0) (fun g3 =>
  if kc g3 a0 = 7 then
  if (hI g3 a0 4) ≤ a2 then (
  fX7_store_b130 r15 ((((37 : Int32) * a1) + (3 : Int32)) + ((3 : Int32) * a2)) (hR g3 a0 3) a0 a1 a2 g3)
  else (
  if kc g3 (hR g3 a0 6) = 10 then
  if ix a2 (kl g3 (hR g3 a0 6)) then
  if (hI g3 (hR g3 a0 6) a2.toNatClampNeg) = 0 then (
  fX7_store_b130 r15 ((((37 : Int32) * a1) + (3 : Int32)) + ((3 : Int32) * a2)) (hR g3 a0 3) a0 a1 a2 g3)
  else (
  fX7_store_b131 r15 (1 : Int32) ((((37 : Int32) * a1) + (3 : Int32)) + ((3 : Int32) * a2)) (hR g3 a0 3) a0 a1 a2 g3)
  else none
  else none)
  else none)
  else none
  else none
def fX7_store_b56 (r15 : Nat → Int32 → Int32 → xH → Option (Unit × xH)) (s0 : Int32) (s1 : Int32) (s2 : Nat) (a0 : Nat) (a1 : Int32) (a2 : Int32) (h : xH) : Option (Unit × xH) :=
  if kc h s2 = 8 then
  if ix s1 (kl h s2) then
  lt (sI h s2 s1.toNatClampNeg s0) (fun g3 =>
  if kc g3 a0 = 7 then
  if (hI g3 a0 4) ≤ a2 then (
  fX7_store_b94 r15 (0 : Int32) ((((37 : Int32) * a1) + (2 : Int32)) + ((3 : Int32) * a2)) (hR g3 a0 3) a0 a1 a2 g3)
  else (
  if kc g3 (hR g3 a0 5) = 9 then
  if ix (((4 : Int32) * a2) + (2 : Int32)) (kl g3 (hR g3 a0 5)) then
  fX7_store_b94 r15 ((hJ g3 (hR g3 a0 5) (((4 : Int32) * a2) + (2 : Int32)).toNatClampNeg).toInt32) ((((37 : Int32) * a1) + (2 : Int32)) + ((3 : Int32) * a2)) (hR g3 a0 3) a0 a1 a2 g3
  else none
  else none)
  else none)
  else none
  else none
def fX7_store_b15 (r15 : Nat → Int32 → Int32 → xH → Option (Unit × xH))  (a0 : Nat) (a1 : Int32) (a2 : Int32) (h : xH) : Option (Unit × xH) :=
  if (12 : Int32) ≤ a2 then (
  some ((), h))
  else (
  if kc h a0 = 7 then
  if (hI h a0 4) ≤ a2 then (
  fX7_store_b56 r15 (0 : Int32) ((((37 : Int32) * a1) + (1 : Int32)) + ((3 : Int32) * a2)) (hR h a0 3) a0 a1 a2 h)
  else (
  if kc h (hR h a0 5) = 9 then
  if ix ((4 : Int32) * a2) (kl h (hR h a0 5)) then
  fX7_store_b56 r15 ((hJ h (hR h a0 5) ((4 : Int32) * a2).toNatClampNeg).toInt32) ((((37 : Int32) * a1) + (1 : Int32)) + ((3 : Int32) * a2)) (hR h a0 3) a0 a1 a2 h
  else none
  else none)
  else none)
def fX7_store_l15  : Nat → Nat → Int32 → Int32 → xH → Option (Unit × xH)
  | 0 => fun _ _ _ _ => none
  | k + 1 => fX7_store_b15 (fX7_store_l15  k)
def fX7_store   (a0 : Nat) (a1 : Int32) (h : xH) : Option (Unit × xH) :=
  if kc h a0 = 7 then
  if kc h (hR h a0 3) = 8 then
  if ix ((37 : Int32) * a1) (kl h (hR h a0 3)) then
  lt (sI h (hR h a0 3) ((37 : Int32) * a1).toNatClampNeg (hI h a0 4)) (fun g4 =>
  lt (0 : Int32) (fun v6 =>
  fX7_store_l15 FU a0 a1 v6 g4))
  else none
  else none
  else none
theorem pX7_store_b131 {h0 : xH} {r15 : Nat → Int32 → Int32 → xH → Option (Unit × xH)} (hr15 : ∀  (a0 : Nat) (a1 : Int32) (a2 : Int32) (g : xH), S emV kX7_store h0 15 [(0, .ref a0), (1, .int a1), (2, .int a2)] [] g (r15  a0 a1 a2 g)) (s0 : Int32) (s1 : Int32) (s2 : Nat) (a0 : Nat) (a1 : Int32) (a2 : Int32) (h : xH) : S emV kX7_store h0 131 [(0, .ref a0), (1, .int a1), (2, .int a2)] [.int s0, .int s1, .ref s2] h (fX7_store_b131 r15 s0 s1 s2 a0 a1 a2 h) := by
  unfold fX7_store_b131
  refine S_gd (fun c1 => ?_)
  refine S_gd (fun c2 => ?_)
  refine s_iast (pc := 131) c1 c2 (by decide +kernel) ?_
  refine s_nmH (o := h) rfl (fun g3 e4 => ?_)
  refine s_iinc (pc := 132) (L' := [(2, .int (a2 + (1 : Int32))), (0, .ref a0), (1, .int a1)]) (i := 2) (n := 1) 2 rfl rfl (by decide) rfl (by decide +kernel) ?_
  refine s_nmI0 (e := a2 + (1 : Int32)) (L := fun v5 => [(2, .int v5), (0, .ref a0), (1, .int a1)]) (fun v5 => ?_)
  refine s_goto (pc := 135) (off := -120) 15 (by decide +kernel) (by decide) ?_
  refine S_sub [1, 2, 0] rfl ?_
  exact hr15 a0 a1 v5 g3
theorem pX7_store_b130 {h0 : xH} {r15 : Nat → Int32 → Int32 → xH → Option (Unit × xH)} (hr15 : ∀  (a0 : Nat) (a1 : Int32) (a2 : Int32) (g : xH), S emV kX7_store h0 15 [(0, .ref a0), (1, .int a1), (2, .int a2)] [] g (r15  a0 a1 a2 g)) (s0 : Int32) (s1 : Nat) (a0 : Nat) (a1 : Int32) (a2 : Int32) (h : xH) : S emV kX7_store h0 130 [(0, .ref a0), (1, .int a1), (2, .int a2)] [.int s0, .ref s1] h (fX7_store_b130 r15 s0 s1 a0 a1 a2 h) := by
  unfold fX7_store_b130
  refine s_iconst (pc := 130) (n := 0) (v := (0 : Int32)) (by decide) (by decide +kernel) ?_
  exact pX7_store_b131 hr15 (0 : Int32) s0 s1 a0 a1 a2 h
theorem pX7_store_b94 {h0 : xH} {r15 : Nat → Int32 → Int32 → xH → Option (Unit × xH)} (hr15 : ∀  (a0 : Nat) (a1 : Int32) (a2 : Int32) (g : xH), S emV kX7_store h0 15 [(0, .ref a0), (1, .int a1), (2, .int a2)] [] g (r15  a0 a1 a2 g)) (s0 : Int32) (s1 : Int32) (s2 : Nat) (a0 : Nat) (a1 : Int32) (a2 : Int32) (h : xH) : S emV kX7_store h0 94 [(0, .ref a0), (1, .int a1), (2, .int a2)] [.int s0, .int s1, .ref s2] h (fX7_store_b94 r15 s0 s1 s2 a0 a1 a2 h) := by
  unfold fX7_store_b94
  refine S_gd (fun c1 => ?_)
  refine S_gd (fun c2 => ?_)
  refine s_iast (pc := 94) c1 c2 (by decide +kernel) ?_
  refine s_nmH (o := h) rfl (fun g3 e4 => ?_)
  refine s_aload_n (pc := 95) (k0 := 0) (i := 0) rfl 0 rfl (by decide +kernel) ?_
  refine S_gd (fun c5 => ?_)
  refine s_getR (pc := 96) (k := 3) c5 ft_X7_15 rfl (by decide +kernel) ?_
  refine s_bipush (pc := 99) (n := 37) (v := (37 : Int32)) (by decide) (by decide +kernel) ?_
  refine s_iload_n (pc := 101) (k0 := 1) (i := 1) rfl 1 rfl (by decide +kernel) ?_
  refine s_imul (pc := 102) (by decide +kernel) ?_
  refine s_iconst (pc := 103) (n := 3) (v := (3 : Int32)) (by decide) (by decide +kernel) ?_
  refine s_iadd (pc := 104) (by decide +kernel) ?_
  refine s_iconst (pc := 105) (n := 3) (v := (3 : Int32)) (by decide) (by decide +kernel) ?_
  refine s_iload_n (pc := 106) (k0 := 2) (i := 2) rfl 2 rfl (by decide +kernel) ?_
  refine s_imul (pc := 107) (by decide +kernel) ?_
  refine s_iadd (pc := 108) (by decide +kernel) ?_
  refine s_iload_n (pc := 109) (k0 := 2) (i := 2) rfl 2 rfl (by decide +kernel) ?_
  refine s_aload_n (pc := 110) (k0 := 0) (i := 0) rfl 0 rfl (by decide +kernel) ?_
  refine s_getI (pc := 111) (k := 4) c5 ft_X7_125 rfl (by decide +kernel) ?_
  refine s_icmp_ge (pc := 114) (off := 16) 130 (by decide +kernel) (by decide) (fun _ => ?_) (fun _ => ?_)
  · exact pX7_store_b130 hr15 ((((37 : Int32) * a1) + (3 : Int32)) + ((3 : Int32) * a2)) (hR g3 a0 3) a0 a1 a2 g3
  · refine s_aload_n (pc := 117) (k0 := 0) (i := 0) rfl 0 rfl (by decide +kernel) ?_
    refine s_getR (pc := 118) (k := 6) c5 ft_X7_22 rfl (by decide +kernel) ?_
    refine s_iload_n (pc := 121) (k0 := 2) (i := 2) rfl 2 rfl (by decide +kernel) ?_
    refine S_gd (fun c6 => ?_)
    refine S_gd (fun c7 => ?_)
    refine s_zald (pc := 122) c6 c7 (by decide +kernel) ?_
    refine s_if_eq (pc := 123) (off := 7) 130 (by decide +kernel) (by decide) (fun _ => ?_) (fun _ => ?_)
    · exact pX7_store_b130 hr15 ((((37 : Int32) * a1) + (3 : Int32)) + ((3 : Int32) * a2)) (hR g3 a0 3) a0 a1 a2 g3
    · refine s_iconst (pc := 126) (n := 1) (v := (1 : Int32)) (by decide) (by decide +kernel) ?_
      refine s_goto (pc := 127) (off := 4) 131 (by decide +kernel) (by decide) ?_
      exact pX7_store_b131 hr15 (1 : Int32) ((((37 : Int32) * a1) + (3 : Int32)) + ((3 : Int32) * a2)) (hR g3 a0 3) a0 a1 a2 g3
theorem pX7_store_b56 {h0 : xH} {r15 : Nat → Int32 → Int32 → xH → Option (Unit × xH)} (hr15 : ∀  (a0 : Nat) (a1 : Int32) (a2 : Int32) (g : xH), S emV kX7_store h0 15 [(0, .ref a0), (1, .int a1), (2, .int a2)] [] g (r15  a0 a1 a2 g)) (s0 : Int32) (s1 : Int32) (s2 : Nat) (a0 : Nat) (a1 : Int32) (a2 : Int32) (h : xH) : S emV kX7_store h0 56 [(0, .ref a0), (1, .int a1), (2, .int a2)] [.int s0, .int s1, .ref s2] h (fX7_store_b56 r15 s0 s1 s2 a0 a1 a2 h) := by
  unfold fX7_store_b56
  refine S_gd (fun c1 => ?_)
  refine S_gd (fun c2 => ?_)
  refine s_iast (pc := 56) c1 c2 (by decide +kernel) ?_
  refine s_nmH (o := h) rfl (fun g3 e4 => ?_)
  refine s_aload_n (pc := 57) (k0 := 0) (i := 0) rfl 0 rfl (by decide +kernel) ?_
  refine S_gd (fun c5 => ?_)
  refine s_getR (pc := 58) (k := 3) c5 ft_X7_15 rfl (by decide +kernel) ?_
  refine s_bipush (pc := 61) (n := 37) (v := (37 : Int32)) (by decide) (by decide +kernel) ?_
  refine s_iload_n (pc := 63) (k0 := 1) (i := 1) rfl 1 rfl (by decide +kernel) ?_
  refine s_imul (pc := 64) (by decide +kernel) ?_
  refine s_iconst (pc := 65) (n := 2) (v := (2 : Int32)) (by decide) (by decide +kernel) ?_
  refine s_iadd (pc := 66) (by decide +kernel) ?_
  refine s_iconst (pc := 67) (n := 3) (v := (3 : Int32)) (by decide) (by decide +kernel) ?_
  refine s_iload_n (pc := 68) (k0 := 2) (i := 2) rfl 2 rfl (by decide +kernel) ?_
  refine s_imul (pc := 69) (by decide +kernel) ?_
  refine s_iadd (pc := 70) (by decide +kernel) ?_
  refine s_iload_n (pc := 71) (k0 := 2) (i := 2) rfl 2 rfl (by decide +kernel) ?_
  refine s_aload_n (pc := 72) (k0 := 0) (i := 0) rfl 0 rfl (by decide +kernel) ?_
  refine s_getI (pc := 73) (k := 4) c5 ft_X7_125 rfl (by decide +kernel) ?_
  refine s_icmp_ge (pc := 76) (off := 17) 93 (by decide +kernel) (by decide) (fun _ => ?_) (fun _ => ?_)
  · refine s_iconst (pc := 93) (n := 0) (v := (0 : Int32)) (by decide) (by decide +kernel) ?_
    exact pX7_store_b94 hr15 (0 : Int32) ((((37 : Int32) * a1) + (2 : Int32)) + ((3 : Int32) * a2)) (hR g3 a0 3) a0 a1 a2 g3
  · refine s_aload_n (pc := 79) (k0 := 0) (i := 0) rfl 0 rfl (by decide +kernel) ?_
    refine s_getR (pc := 80) (k := 5) c5 ft_X7_18 rfl (by decide +kernel) ?_
    refine s_iconst (pc := 83) (n := 4) (v := (4 : Int32)) (by decide) (by decide +kernel) ?_
    refine s_iload_n (pc := 84) (k0 := 2) (i := 2) rfl 2 rfl (by decide +kernel) ?_
    refine s_imul (pc := 85) (by decide +kernel) ?_
    refine s_iconst (pc := 86) (n := 2) (v := (2 : Int32)) (by decide) (by decide +kernel) ?_
    refine s_iadd (pc := 87) (by decide +kernel) ?_
    refine S_gd (fun c6 => ?_)
    refine S_gd (fun c7 => ?_)
    refine s_lald (pc := 88) c6 c7 (by decide +kernel) ?_
    refine s_l2i (pc := 89) (by decide +kernel) ?_
    refine s_goto (pc := 90) (off := 4) 94 (by decide +kernel) (by decide) ?_
    exact pX7_store_b94 hr15 ((hJ g3 (hR g3 a0 5) (((4 : Int32) * a2) + (2 : Int32)).toNatClampNeg).toInt32) ((((37 : Int32) * a1) + (2 : Int32)) + ((3 : Int32) * a2)) (hR g3 a0 3) a0 a1 a2 g3
theorem pX7_store_b15 {h0 : xH} {r15 : Nat → Int32 → Int32 → xH → Option (Unit × xH)} (hr15 : ∀  (a0 : Nat) (a1 : Int32) (a2 : Int32) (g : xH), S emV kX7_store h0 15 [(0, .ref a0), (1, .int a1), (2, .int a2)] [] g (r15  a0 a1 a2 g))  (a0 : Nat) (a1 : Int32) (a2 : Int32) (h : xH) : S emV kX7_store h0 15 [(0, .ref a0), (1, .int a1), (2, .int a2)] [] h (fX7_store_b15 r15 a0 a1 a2 h) := by
  unfold fX7_store_b15
  refine s_iload_n (pc := 15) (k0 := 2) (i := 2) rfl 2 rfl (by decide +kernel) ?_
  refine s_bipush (pc := 16) (n := 12) (v := (12 : Int32)) (by decide) (by decide +kernel) ?_
  refine s_icmp_ge (pc := 18) (off := 120) 138 (by decide +kernel) (by decide) (fun _ => ?_) (fun _ => ?_)
  · exact s_vret (pc := 138) rfl (by decide +kernel)
  · refine s_aload_n (pc := 21) (k0 := 0) (i := 0) rfl 0 rfl (by decide +kernel) ?_
    refine S_gd (fun c1 => ?_)
    refine s_getR (pc := 22) (k := 3) c1 ft_X7_15 rfl (by decide +kernel) ?_
    refine s_bipush (pc := 25) (n := 37) (v := (37 : Int32)) (by decide) (by decide +kernel) ?_
    refine s_iload_n (pc := 27) (k0 := 1) (i := 1) rfl 1 rfl (by decide +kernel) ?_
    refine s_imul (pc := 28) (by decide +kernel) ?_
    refine s_iconst (pc := 29) (n := 1) (v := (1 : Int32)) (by decide) (by decide +kernel) ?_
    refine s_iadd (pc := 30) (by decide +kernel) ?_
    refine s_iconst (pc := 31) (n := 3) (v := (3 : Int32)) (by decide) (by decide +kernel) ?_
    refine s_iload_n (pc := 32) (k0 := 2) (i := 2) rfl 2 rfl (by decide +kernel) ?_
    refine s_imul (pc := 33) (by decide +kernel) ?_
    refine s_iadd (pc := 34) (by decide +kernel) ?_
    refine s_iload_n (pc := 35) (k0 := 2) (i := 2) rfl 2 rfl (by decide +kernel) ?_
    refine s_aload_n (pc := 36) (k0 := 0) (i := 0) rfl 0 rfl (by decide +kernel) ?_
    refine s_getI (pc := 37) (k := 4) c1 ft_X7_125 rfl (by decide +kernel) ?_
    refine s_icmp_ge (pc := 40) (off := 15) 55 (by decide +kernel) (by decide) (fun _ => ?_) (fun _ => ?_)
    · refine s_iconst (pc := 55) (n := 0) (v := (0 : Int32)) (by decide) (by decide +kernel) ?_
      exact pX7_store_b56 hr15 (0 : Int32) ((((37 : Int32) * a1) + (1 : Int32)) + ((3 : Int32) * a2)) (hR h a0 3) a0 a1 a2 h
    · refine s_aload_n (pc := 43) (k0 := 0) (i := 0) rfl 0 rfl (by decide +kernel) ?_
      refine s_getR (pc := 44) (k := 5) c1 ft_X7_18 rfl (by decide +kernel) ?_
      refine s_iconst (pc := 47) (n := 4) (v := (4 : Int32)) (by decide) (by decide +kernel) ?_
      refine s_iload_n (pc := 48) (k0 := 2) (i := 2) rfl 2 rfl (by decide +kernel) ?_
      refine s_imul (pc := 49) (by decide +kernel) ?_
      refine S_gd (fun c2 => ?_)
      refine S_gd (fun c3 => ?_)
      refine s_lald (pc := 50) c2 c3 (by decide +kernel) ?_
      refine s_l2i (pc := 51) (by decide +kernel) ?_
      refine s_goto (pc := 52) (off := 4) 56 (by decide +kernel) (by decide) ?_
      exact pX7_store_b56 hr15 ((hJ h (hR h a0 5) ((4 : Int32) * a2).toNatClampNeg).toInt32) ((((37 : Int32) * a1) + (1 : Int32)) + ((3 : Int32) * a2)) (hR h a0 3) a0 a1 a2 h
theorem pX7_store_l15 {h0 : xH}   : ∀ (k : Nat)  (a0 : Nat) (a1 : Int32) (a2 : Int32) (h : xH), S emV kX7_store h0 15 [(0, .ref a0), (1, .int a1), (2, .int a2)] [] h (fX7_store_l15  k  a0 a1 a2 h) := by
  intro k
  induction k with
  | zero => intros; exact S_none
  | succ k ih => intro  a0 a1 a2 h; exact pX7_store_b15 ih  a0 a1 a2 h
theorem pX7_store_e    (a0 : Nat) (a1 : Int32) (h : xH) : S emV kX7_store h 0 [(0, .ref a0), (1, .int a1)] [] h (fX7_store  a0 a1 h) := by
  unfold fX7_store
  refine s_aload_n (pc := 0) (k0 := 0) (i := 0) rfl 0 rfl (by decide +kernel) ?_
  refine S_gd (fun c1 => ?_)
  refine s_getR (pc := 1) (k := 3) c1 ft_X7_15 rfl (by decide +kernel) ?_
  refine s_bipush (pc := 4) (n := 37) (v := (37 : Int32)) (by decide) (by decide +kernel) ?_
  refine s_iload_n (pc := 6) (k0 := 1) (i := 1) rfl 1 rfl (by decide +kernel) ?_
  refine s_imul (pc := 7) (by decide +kernel) ?_
  refine s_aload_n (pc := 8) (k0 := 0) (i := 0) rfl 0 rfl (by decide +kernel) ?_
  refine s_getI (pc := 9) (k := 4) c1 ft_X7_125 rfl (by decide +kernel) ?_
  refine S_gd (fun c2 => ?_)
  refine S_gd (fun c3 => ?_)
  refine s_iast (pc := 12) c2 c3 (by decide +kernel) ?_
  refine s_nmH (o := h) rfl (fun g4 e5 => ?_)
  refine s_iconst (pc := 13) (n := 0) (v := (0 : Int32)) (by decide) (by decide +kernel) ?_
  refine s_nmI (fun v6 => ?_)
  refine s_istore_n (pc := 14) (L' := [(2, .int v6), (0, .ref a0), (1, .int a1)]) (k0 := 2) (i := 2) rfl (by decide) rfl (by decide +kernel) ?_
  refine S_sub [1, 2, 0] rfl ?_
  exact pX7_store_l15 FU a0 a1 v6 g4
theorem tX7_store (a0 : Nat) (a1 : Int32) (h : xH) : Ct yX7_store kX7_store emV [.ref a0, .int a1] h (fX7_store a0 a1 h) := Ct_of (by decide +kernel) rfl rfl rfl (Nat.le_of_ble_eq_true rfl) rfl (pX7_store_e a0 a1 h)
