def fX7_isStrict_b65 (r5 : Nat → Int32 → Int32 → Int32 → Int32 → xH → Option (Int32 × xH)) (s0 : Int32) (a0 : Nat) (a1 : Int32) (a2 : Int32) (a4 : Int32) (h : xH) : Option (Int32 × xH) :=
  lt (a4 + (1 : Int32)) (fun v1 =>
  r5 a0 a1 a2 s0 v1 h)
def fX7_isStrict_b64 (r5 : Nat → Int32 → Int32 → Int32 → Int32 → xH → Option (Int32 × xH))  (a0 : Nat) (a1 : Int32) (a2 : Int32) (a4 : Int32) (h : xH) : Option (Int32 × xH) :=
  fX7_isStrict_b65 r5 (0 : Int32) a0 a1 a2 a4 h
def fX7_isStrict_b5 (r5 : Nat → Int32 → Int32 → Int32 → Int32 → xH → Option (Int32 × xH))  (a0 : Nat) (a1 : Int32) (a2 : Int32) (a3 : Int32) (a4 : Int32) (h : xH) : Option (Int32 × xH) :=
  if kc h a0 = 7 then
  bd (fX7_many a0 a1 h) (fun w4 g2 =>
  if w4 ≤ a4 then (
  if a3 = 0 ∨ a3 = 1 then
  some (a3, g2)
  else none)
  else (
  if a3 = 0 then (
  fX7_isStrict_b64 r5 a0 a1 a2 a4 g2)
  else (
  bd (fX7_yOf a0 a1 a4 g2) (fun w9 g7 =>
  bd (fX7_yOf a0 a1 (a4 - (1 : Int32)) g7) (fun w13 g11 =>
  if (a2 * (w9 - w13)) ≤ 0 then (
  fX7_isStrict_b64 r5 a0 a1 a2 a4 g11)
  else (
  bd (fX7_xOf a0 a1 a4 g11) (fun w17 g15 =>
  bd (fX7_xOf a0 a1 (a4 - (1 : Int32)) g15) (fun w21 g19 =>
  if w17 ≤ w21 then (
  fX7_isStrict_b64 r5 a0 a1 a2 a4 g19)
  else (
  fX7_isStrict_b65 r5 (1 : Int32) a0 a1 a2 a4 g19)))))))))
  else none
def fX7_isStrict_l5  : Nat → Nat → Int32 → Int32 → Int32 → Int32 → xH → Option (Int32 × xH)
  | 0 => fun _ _ _ _ _ _ => none
  | k + 1 => fX7_isStrict_b5 (fX7_isStrict_l5  k)
def fX7_isStrict   (a0 : Nat) (a1 : Int32) (a2 : Int32) (h : xH) : Option (Int32 × xH) :=
  lt (1 : Int32) (fun v1 =>
  lt (1 : Int32) (fun v2 =>
  fX7_isStrict_l5 FU a0 a1 a2 v1 v2 h))
theorem pX7_isStrict_b65 {h0 : xH} {r5 : Nat → Int32 → Int32 → Int32 → Int32 → xH → Option (Int32 × xH)} (hr5 : ∀  (a0 : Nat) (a1 : Int32) (a2 : Int32) (a3 : Int32) (a4 : Int32) (g : xH), S emI kX7_isStrict h0 5 [(0, .ref a0), (1, .int a1), (2, .int a2), (3, .int a3), (4, .int a4)] [] g (r5  a0 a1 a2 a3 a4 g)) (s0 : Int32) (a0 : Nat) (a1 : Int32) (a2 : Int32) (a4 : Int32) (h : xH) : S emI kX7_isStrict h0 65 [(0, .ref a0), (1, .int a1), (2, .int a2), (4, .int a4)] [.int s0] h (fX7_isStrict_b65 r5 s0 a0 a1 a2 a4 h) := by
  unfold fX7_isStrict_b65
  refine s_istore_n (pc := 65) (L' := [(3, .int s0), (0, .ref a0), (1, .int a1), (2, .int a2), (4, .int a4)]) (k0 := 3) (i := 3) rfl (by decide) rfl (by decide +kernel) ?_
  refine s_iinc (pc := 66) (L' := [(4, .int (a4 + (1 : Int32))), (3, .int s0), (0, .ref a0), (1, .int a1), (2, .int a2)]) (i := 4) (n := 1) 4 rfl rfl (by decide) rfl (by decide +kernel) ?_
  refine s_nmI0 (e := a4 + (1 : Int32)) (L := fun v1 => [(4, .int v1), (3, .int s0), (0, .ref a0), (1, .int a1), (2, .int a2)]) (fun v1 => ?_)
  refine s_goto (pc := 69) (off := -64) 5 (by decide +kernel) (by decide) ?_
  refine S_sub [2, 3, 4, 1, 0] rfl ?_
  exact hr5 a0 a1 a2 s0 v1 h
theorem pX7_isStrict_b64 {h0 : xH} {r5 : Nat → Int32 → Int32 → Int32 → Int32 → xH → Option (Int32 × xH)} (hr5 : ∀  (a0 : Nat) (a1 : Int32) (a2 : Int32) (a3 : Int32) (a4 : Int32) (g : xH), S emI kX7_isStrict h0 5 [(0, .ref a0), (1, .int a1), (2, .int a2), (3, .int a3), (4, .int a4)] [] g (r5  a0 a1 a2 a3 a4 g))  (a0 : Nat) (a1 : Int32) (a2 : Int32) (a4 : Int32) (h : xH) : S emI kX7_isStrict h0 64 [(0, .ref a0), (1, .int a1), (2, .int a2), (4, .int a4)] [] h (fX7_isStrict_b64 r5 a0 a1 a2 a4 h) := by
  unfold fX7_isStrict_b64
  refine s_iconst (pc := 64) (n := 0) (v := (0 : Int32)) (by decide) (by decide +kernel) ?_
  exact pX7_isStrict_b65 hr5 (0 : Int32) a0 a1 a2 a4 h
theorem pX7_isStrict_b5 {h0 : xH} {r5 : Nat → Int32 → Int32 → Int32 → Int32 → xH → Option (Int32 × xH)} (hr5 : ∀  (a0 : Nat) (a1 : Int32) (a2 : Int32) (a3 : Int32) (a4 : Int32) (g : xH), S emI kX7_isStrict h0 5 [(0, .ref a0), (1, .int a1), (2, .int a2), (3, .int a3), (4, .int a4)] [] g (r5  a0 a1 a2 a3 a4 g))  (a0 : Nat) (a1 : Int32) (a2 : Int32) (a3 : Int32) (a4 : Int32) (h : xH) : S emI kX7_isStrict h0 5 [(0, .ref a0), (1, .int a1), (2, .int a2), (3, .int a3), (4, .int a4)] [] h (fX7_isStrict_b5 r5 a0 a1 a2 a3 a4 h) := by
  unfold fX7_isStrict_b5
  refine s_iload (pc := 5) (i := 4) 4 rfl (by decide +kernel) ?_
  refine s_aload_n (pc := 7) (k0 := 0) (i := 0) rfl 0 rfl (by decide +kernel) ?_
  refine s_iload_n (pc := 8) (k0 := 1) (i := 1) rfl 1 rfl (by decide +kernel) ?_
  refine S_gd (fun c1 => ?_)
  refine s_cVi (pc := 9) [.int a1] (tX7_many a0 a1 h) c1 cw_X7_168 rfl ⟨⟨Nat.le_of_ble_eq_true rfl, Nat.le_of_ble_eq_true rfl⟩, Nat.le_of_ble_eq_true rfl⟩ rfl (by decide +kernel) (fun w4 g2 e3 => ?_)
  refine s_icmp_ge (pc := 12) (off := 60) 72 (by decide +kernel) (by decide) (fun _ => ?_) (fun _ => ?_)
  · refine s_iload_n (pc := 72) (k0 := 3) (i := 3) rfl 3 rfl (by decide +kernel) ?_
    refine S_gd (fun c5 => ?_)
    exact s_zret (pc := 73) c5 rfl (by decide +kernel)
  · refine s_iload_n (pc := 15) (k0 := 3) (i := 3) rfl 3 rfl (by decide +kernel) ?_
    refine s_if_eq (pc := 16) (off := 48) 64 (by decide +kernel) (by decide) (fun _ => ?_) (fun _ => ?_)
    · refine S_sub [0, 1, 2, 4] rfl ?_
      exact pX7_isStrict_b64 hr5 a0 a1 a2 a4 g2
    · refine s_iload_n (pc := 19) (k0 := 2) (i := 2) rfl 2 rfl (by decide +kernel) ?_
      refine s_aload_n (pc := 20) (k0 := 0) (i := 0) rfl 0 rfl (by decide +kernel) ?_
      refine s_iload_n (pc := 21) (k0 := 1) (i := 1) rfl 1 rfl (by decide +kernel) ?_
      refine s_iload (pc := 22) (i := 4) 4 rfl (by decide +kernel) ?_
      have c6 := kp e3 c1 (by decide)
      refine s_cVi (pc := 24) [.int a1, .int a4] (tX7_yOf a0 a1 a4 g2) c6 cw_X7_178 rfl ⟨⟨Nat.le_of_ble_eq_true rfl, Nat.le_of_ble_eq_true rfl⟩, Nat.le_of_ble_eq_true rfl⟩ rfl (by decide +kernel) (fun w9 g7 e8 => ?_)
      refine s_aload_n (pc := 27) (k0 := 0) (i := 0) rfl 0 rfl (by decide +kernel) ?_
      refine s_iload_n (pc := 28) (k0 := 1) (i := 1) rfl 1 rfl (by decide +kernel) ?_
      refine s_iload (pc := 29) (i := 4) 4 rfl (by decide +kernel) ?_
      refine s_iconst (pc := 31) (n := 1) (v := (1 : Int32)) (by decide) (by decide +kernel) ?_
      refine s_isub (pc := 32) (by decide +kernel) ?_
      have c10 := kp e8 c6 (by decide)
      refine s_cVi (pc := 33) [.int a1, .int (a4 - (1 : Int32))] (tX7_yOf a0 a1 (a4 - (1 : Int32)) g7) c10 cw_X7_178 rfl ⟨⟨Nat.le_of_ble_eq_true rfl, Nat.le_of_ble_eq_true rfl⟩, Nat.le_of_ble_eq_true rfl⟩ rfl (by decide +kernel) (fun w13 g11 e12 => ?_)
      refine s_isub (pc := 36) (by decide +kernel) ?_
      refine s_imul (pc := 37) (by decide +kernel) ?_
      refine s_if_le (pc := 38) (off := 26) 64 (by decide +kernel) (by decide) (fun _ => ?_) (fun _ => ?_)
      · refine S_sub [0, 1, 2, 4] rfl ?_
        exact pX7_isStrict_b64 hr5 a0 a1 a2 a4 g11
      · refine s_aload_n (pc := 41) (k0 := 0) (i := 0) rfl 0 rfl (by decide +kernel) ?_
        refine s_iload_n (pc := 42) (k0 := 1) (i := 1) rfl 1 rfl (by decide +kernel) ?_
        refine s_iload (pc := 43) (i := 4) 4 rfl (by decide +kernel) ?_
        have c14 := kp e12 c10 (by decide)
        refine s_cVi (pc := 45) [.int a1, .int a4] (tX7_xOf a0 a1 a4 g11) c14 cw_X7_174 rfl ⟨⟨Nat.le_of_ble_eq_true rfl, Nat.le_of_ble_eq_true rfl⟩, Nat.le_of_ble_eq_true rfl⟩ rfl (by decide +kernel) (fun w17 g15 e16 => ?_)
        refine s_aload_n (pc := 48) (k0 := 0) (i := 0) rfl 0 rfl (by decide +kernel) ?_
        refine s_iload_n (pc := 49) (k0 := 1) (i := 1) rfl 1 rfl (by decide +kernel) ?_
        refine s_iload (pc := 50) (i := 4) 4 rfl (by decide +kernel) ?_
        refine s_iconst (pc := 52) (n := 1) (v := (1 : Int32)) (by decide) (by decide +kernel) ?_
        refine s_isub (pc := 53) (by decide +kernel) ?_
        have c18 := kp e16 c14 (by decide)
        refine s_cVi (pc := 54) [.int a1, .int (a4 - (1 : Int32))] (tX7_xOf a0 a1 (a4 - (1 : Int32)) g15) c18 cw_X7_174 rfl ⟨⟨Nat.le_of_ble_eq_true rfl, Nat.le_of_ble_eq_true rfl⟩, Nat.le_of_ble_eq_true rfl⟩ rfl (by decide +kernel) (fun w21 g19 e20 => ?_)
        refine s_icmp_le (pc := 57) (off := 7) 64 (by decide +kernel) (by decide) (fun _ => ?_) (fun _ => ?_)
        · refine S_sub [0, 1, 2, 4] rfl ?_
          exact pX7_isStrict_b64 hr5 a0 a1 a2 a4 g19
        · refine s_iconst (pc := 60) (n := 1) (v := (1 : Int32)) (by decide) (by decide +kernel) ?_
          refine s_goto (pc := 61) (off := 4) 65 (by decide +kernel) (by decide) ?_
          refine S_sub [0, 1, 2, 4] rfl ?_
          exact pX7_isStrict_b65 hr5 (1 : Int32) a0 a1 a2 a4 g19
theorem pX7_isStrict_l5 {h0 : xH}   : ∀ (k : Nat)  (a0 : Nat) (a1 : Int32) (a2 : Int32) (a3 : Int32) (a4 : Int32) (h : xH), S emI kX7_isStrict h0 5 [(0, .ref a0), (1, .int a1), (2, .int a2), (3, .int a3), (4, .int a4)] [] h (fX7_isStrict_l5  k  a0 a1 a2 a3 a4 h) := by
  intro k
  induction k with
  | zero => intros; exact S_none
  | succ k ih => intro  a0 a1 a2 a3 a4 h; exact pX7_isStrict_b5 ih  a0 a1 a2 a3 a4 h
theorem pX7_isStrict_e    (a0 : Nat) (a1 : Int32) (a2 : Int32) (h : xH) : S emI kX7_isStrict h 0 [(0, .ref a0), (1, .int a1), (2, .int a2)] [] h (fX7_isStrict  a0 a1 a2 h) := by
  unfold fX7_isStrict
  refine s_iconst (pc := 0) (n := 1) (v := (1 : Int32)) (by decide) (by decide +kernel) ?_
  refine s_nmI (fun v1 => ?_)
  refine s_istore_n (pc := 1) (L' := [(3, .int v1), (0, .ref a0), (1, .int a1), (2, .int a2)]) (k0 := 3) (i := 3) rfl (by decide) rfl (by decide +kernel) ?_
  refine s_iconst (pc := 2) (n := 1) (v := (1 : Int32)) (by decide) (by decide +kernel) ?_
  refine s_nmI (fun v2 => ?_)
  refine s_istore (pc := 3) (L' := [(4, .int v2), (3, .int v1), (0, .ref a0), (1, .int a1), (2, .int a2)]) (i := 4) (by decide) rfl (by decide +kernel) ?_
  refine S_sub [2, 3, 4, 1, 0] rfl ?_
  exact pX7_isStrict_l5 FU a0 a1 a2 v1 v2 h
theorem tX7_isStrict (a0 : Nat) (a1 : Int32) (a2 : Int32) (h : xH) : Ct yX7_isStrict kX7_isStrict emI [.ref a0, .int a1, .int a2] h (fX7_isStrict a0 a1 a2 h) := Ct_of (by decide +kernel) rfl rfl rfl (Nat.le_of_ble_eq_true rfl) rfl (pX7_isStrict_e a0 a1 a2 h)
def fX7_turn_b163 (r59 : Nat → Int32 → Int32 → xH → Option (Int32 × xH))  (a0 : Nat) (a2 : Int32) (a3 : Int32) (h : xH) : Option (Int32 × xH) :=
  lt (a3 + (1 : Int32)) (fun v1 =>
  r59 a0 a2 v1 h)
def fX7_turn_b59 (r59 : Nat → Int32 → Int32 → xH → Option (Int32 × xH))  (a0 : Nat) (a2 : Int32) (a3 : Int32) (h : xH) : Option (Int32 × xH) :=
  if kc h a0 = 7 then
  if (hI h a0 26) ≤ a3 then (
  bd (fX7_onto a0 (6 : Int32) h) (fun w4 g2 =>
  some (w4, g2)))
  else (
  lt ((4 : Int32) * a3) (fun v5 =>
  if a2 = 0 then (
  if kc h (hR h a0 25) = 8 then
  if ix (v5 + (3 : Int32)) (kl h (hR h a0 25)) then
  if ix (v5 + (2 : Int32)) (kl h (hR h a0 25)) then
  if ix (v5 + (1 : Int32)) (kl h (hR h a0 25)) then
  if ix v5 (kl h (hR h a0 25)) then
  bd (fX7_lineBy a0 ((hI h (hR h a0 25) (v5 + (3 : Int32)).toNatClampNeg).toInt64) ((hI h (hR h a0 25) (v5 + (2 : Int32)).toNatClampNeg).toInt64) ((hI h (hR h a0 25) (v5 + (1 : Int32)).toNatClampNeg).toInt64) ((hI h (hR h a0 25) v5.toNatClampNeg).toInt64) h) (fun _ g11 =>
  fX7_turn_b163 r59 a0 a2 a3 g11)
  else none
  else none
  else none
  else none
  else none)
  else (
  if kc h (hR h a0 25) = 8 then
  if ix (v5 + (1 : Int32)) (kl h (hR h a0 25)) then
  if ix v5 (kl h (hR h a0 25)) then
  if ix (v5 + (3 : Int32)) (kl h (hR h a0 25)) then
  if ix (v5 + (2 : Int32)) (kl h (hR h a0 25)) then
  bd (fX7_lineBy a0 ((hI h (hR h a0 25) (v5 + (1 : Int32)).toNatClampNeg).toInt64) ((hI h (hR h a0 25) v5.toNatClampNeg).toInt64) ((hI h (hR h a0 25) (v5 + (3 : Int32)).toNatClampNeg).toInt64) ((hI h (hR h a0 25) (v5 + (2 : Int32)).toNatClampNeg).toInt64) h) (fun _ g18 =>
  fX7_turn_b163 r59 a0 a2 a3 g18)
  else none
  else none
  else none
  else none
  else none)))
  else none
def fX7_turn_l59  : Nat → Nat → Int32 → Int32 → xH → Option (Int32 × xH)
  | 0 => fun _ _ _ _ => none
  | k + 1 => fX7_turn_b59 (fX7_turn_l59  k)
def fX7_turn_b46   (a0 : Nat) (a1 : Int32) (a2 : Int32) (h : xH) : Option (Int32 × xH) :=
  if kc h a0 = 7 then
  bd (fX7_laySpans a0 a1 (0 : Int32) h) (fun _ g2 =>
  lt (sI g2 a0 19 (0 : Int32)) (fun g5 =>
  lt (0 : Int32) (fun v7 =>
  fX7_turn_l59 FU a0 a2 v7 g5)))
  else none
def fX7_turn   (a0 : Nat) (a1 : Int32) (h : xH) : Option (Int32 × xH) :=
  if kc h a0 = 7 then
  lt (sI h a0 0 (0 : Int32)) (fun g2 =>
  bd (fX7_isStore a1 g2) (fun w6 g4 =>
  if w6 = 0 then (
  bd (fX7_refuse a0 (-2 : Int32) g4) (fun w22 g20 =>
  some (w22, g20)))
  else (
  bd (fX7_isStrict a0 a1 (1 : Int32) g4) (fun w10 g8 =>
  if w10 = 0 then (
  bd (fX7_isStrict a0 a1 (-1 : Int32) g8) (fun w14 g12 =>
  if w14 = 0 then (
  bd (fX7_refuse a0 (-4 : Int32) g12) (fun w18 g16 =>
  some (w18, g16)))
  else (
  fX7_turn_b46 a0 a1 w10 g12)))
  else (
  fX7_turn_b46 a0 a1 w10 g8)))))
  else none
theorem pX7_turn_b163 {h0 : xH} {r59 : Nat → Int32 → Int32 → xH → Option (Int32 × xH)} (hr59 : ∀  (a0 : Nat) (a2 : Int32) (a3 : Int32) (g : xH), S emI kX7_turn h0 59 [(0, .ref a0), (2, .int a2), (3, .int a3)] [] g (r59  a0 a2 a3 g))  (a0 : Nat) (a2 : Int32) (a3 : Int32) (h : xH) : S emI kX7_turn h0 163 [(0, .ref a0), (2, .int a2), (3, .int a3)] [] h (fX7_turn_b163 r59 a0 a2 a3 h) := by
  unfold fX7_turn_b163
  refine s_iinc (pc := 163) (L' := [(3, .int (a3 + (1 : Int32))), (0, .ref a0), (2, .int a2)]) (i := 3) (n := 1) 2 rfl rfl (by decide) rfl (by decide +kernel) ?_
  refine s_nmI0 (e := a3 + (1 : Int32)) (L := fun v1 => [(3, .int v1), (0, .ref a0), (2, .int a2)]) (fun v1 => ?_)
  refine s_goto (pc := 166) (off := -107) 59 (by decide +kernel) (by decide) ?_
  refine S_sub [1, 2, 0] rfl ?_
  exact hr59 a0 a2 v1 h
theorem pX7_turn_b59 {h0 : xH} {r59 : Nat → Int32 → Int32 → xH → Option (Int32 × xH)} (hr59 : ∀  (a0 : Nat) (a2 : Int32) (a3 : Int32) (g : xH), S emI kX7_turn h0 59 [(0, .ref a0), (2, .int a2), (3, .int a3)] [] g (r59  a0 a2 a3 g))  (a0 : Nat) (a2 : Int32) (a3 : Int32) (h : xH) : S emI kX7_turn h0 59 [(0, .ref a0), (2, .int a2), (3, .int a3)] [] h (fX7_turn_b59 r59 a0 a2 a3 h) := by
  unfold fX7_turn_b59
  refine s_iload_n (pc := 59) (k0 := 3) (i := 3) rfl 2 rfl (by decide +kernel) ?_
  refine s_aload_n (pc := 60) (k0 := 0) (i := 0) rfl 0 rfl (by decide +kernel) ?_
  refine S_gd (fun c1 => ?_)
  refine s_getI (pc := 61) (k := 26) c1 ft_X7_165 rfl (by decide +kernel) ?_
  refine s_icmp_ge (pc := 64) (off := 105) 169 (by decide +kernel) (by decide) (fun _ => ?_) (fun _ => ?_)
  · refine s_aload_n (pc := 169) (k0 := 0) (i := 0) rfl 0 rfl (by decide +kernel) ?_
    refine s_bipush (pc := 170) (n := 6) (v := (6 : Int32)) (by decide) (by decide +kernel) ?_
    refine s_cVi (pc := 172) [.int (6 : Int32)] (tX7_onto a0 (6 : Int32) h) c1 cw_X7_257 rfl ⟨⟨Nat.le_of_ble_eq_true rfl, Nat.le_of_ble_eq_true rfl⟩, Nat.le_of_ble_eq_true rfl⟩ rfl (by decide +kernel) (fun w4 g2 e3 => ?_)
    exact s_iret (pc := 175) rfl (by decide +kernel)
  · refine s_iconst (pc := 67) (n := 4) (v := (4 : Int32)) (by decide) (by decide +kernel) ?_
    refine s_iload_n (pc := 68) (k0 := 3) (i := 3) rfl 2 rfl (by decide +kernel) ?_
    refine s_imul (pc := 69) (by decide +kernel) ?_
    refine s_nmI (fun v5 => ?_)
    refine s_istore (pc := 70) (L' := [(4, .int v5), (0, .ref a0), (2, .int a2), (3, .int a3)]) (i := 4) (by decide) rfl (by decide +kernel) ?_
    refine s_iload_n (pc := 72) (k0 := 2) (i := 2) rfl 2 rfl (by decide +kernel) ?_
    refine s_if_eq (pc := 73) (off := 48) 121 (by decide +kernel) (by decide) (fun _ => ?_) (fun _ => ?_)
    · refine s_aload_n (pc := 121) (k0 := 0) (i := 0) rfl 1 rfl (by decide +kernel) ?_
      refine s_aload_n (pc := 122) (k0 := 0) (i := 0) rfl 1 rfl (by decide +kernel) ?_
      refine s_getR (pc := 123) (k := 25) c1 ft_X7_72 rfl (by decide +kernel) ?_
      refine s_iload (pc := 126) (i := 4) 0 rfl (by decide +kernel) ?_
      refine s_iconst (pc := 128) (n := 3) (v := (3 : Int32)) (by decide) (by decide +kernel) ?_
      refine s_iadd (pc := 129) (by decide +kernel) ?_
      refine S_gd (fun c6 => ?_)
      refine S_gd (fun c7 => ?_)
      refine s_iald (pc := 130) c6 c7 (by decide +kernel) ?_
      refine s_i2l (pc := 131) (by decide +kernel) ?_
      refine s_aload_n (pc := 132) (k0 := 0) (i := 0) rfl 1 rfl (by decide +kernel) ?_
      refine s_getR (pc := 133) (k := 25) c1 ft_X7_72 rfl (by decide +kernel) ?_
      refine s_iload (pc := 136) (i := 4) 0 rfl (by decide +kernel) ?_
      refine s_iconst (pc := 138) (n := 2) (v := (2 : Int32)) (by decide) (by decide +kernel) ?_
      refine s_iadd (pc := 139) (by decide +kernel) ?_
      refine S_gd (fun c8 => ?_)
      refine s_iald (pc := 140) c6 c8 (by decide +kernel) ?_
      refine s_i2l (pc := 141) (by decide +kernel) ?_
      refine s_aload_n (pc := 142) (k0 := 0) (i := 0) rfl 1 rfl (by decide +kernel) ?_
      refine s_getR (pc := 143) (k := 25) c1 ft_X7_72 rfl (by decide +kernel) ?_
      refine s_iload (pc := 146) (i := 4) 0 rfl (by decide +kernel) ?_
      refine s_iconst (pc := 148) (n := 1) (v := (1 : Int32)) (by decide) (by decide +kernel) ?_
      refine s_iadd (pc := 149) (by decide +kernel) ?_
      refine S_gd (fun c9 => ?_)
      refine s_iald (pc := 150) c6 c9 (by decide +kernel) ?_
      refine s_i2l (pc := 151) (by decide +kernel) ?_
      refine s_aload_n (pc := 152) (k0 := 0) (i := 0) rfl 1 rfl (by decide +kernel) ?_
      refine s_getR (pc := 153) (k := 25) c1 ft_X7_72 rfl (by decide +kernel) ?_
      refine s_iload (pc := 156) (i := 4) 0 rfl (by decide +kernel) ?_
      refine S_gd (fun c10 => ?_)
      refine s_iald (pc := 158) c6 c10 (by decide +kernel) ?_
      refine s_i2l (pc := 159) (by decide +kernel) ?_
      refine s_cVv (pc := 160) [.long ((hI h (hR h a0 25) (v5 + (3 : Int32)).toNatClampNeg).toInt64), .long ((hI h (hR h a0 25) (v5 + (2 : Int32)).toNatClampNeg).toInt64), .long ((hI h (hR h a0 25) (v5 + (1 : Int32)).toNatClampNeg).toInt64), .long ((hI h (hR h a0 25) v5.toNatClampNeg).toInt64)] (tX7_lineBy a0 ((hI h (hR h a0 25) (v5 + (3 : Int32)).toNatClampNeg).toInt64) ((hI h (hR h a0 25) (v5 + (2 : Int32)).toNatClampNeg).toInt64) ((hI h (hR h a0 25) (v5 + (1 : Int32)).toNatClampNeg).toInt64) ((hI h (hR h a0 25) v5.toNatClampNeg).toInt64) h) c1 cw_X7_185 rfl ⟨⟨Nat.le_of_ble_eq_true rfl, Nat.le_of_ble_eq_true rfl⟩, Nat.le_of_ble_eq_true rfl⟩ rfl (by decide +kernel) (fun _ g11 e12 => ?_)
      refine S_sub [1, 2, 3] rfl ?_
      exact pX7_turn_b163 hr59 a0 a2 a3 g11
    · refine s_aload_n (pc := 76) (k0 := 0) (i := 0) rfl 1 rfl (by decide +kernel) ?_
      refine s_aload_n (pc := 77) (k0 := 0) (i := 0) rfl 1 rfl (by decide +kernel) ?_
      refine s_getR (pc := 78) (k := 25) c1 ft_X7_72 rfl (by decide +kernel) ?_
      refine s_iload (pc := 81) (i := 4) 0 rfl (by decide +kernel) ?_
      refine s_iconst (pc := 83) (n := 1) (v := (1 : Int32)) (by decide) (by decide +kernel) ?_
      refine s_iadd (pc := 84) (by decide +kernel) ?_
      refine S_gd (fun c13 => ?_)
      refine S_gd (fun c14 => ?_)
      refine s_iald (pc := 85) c13 c14 (by decide +kernel) ?_
      refine s_i2l (pc := 86) (by decide +kernel) ?_
      refine s_aload_n (pc := 87) (k0 := 0) (i := 0) rfl 1 rfl (by decide +kernel) ?_
      refine s_getR (pc := 88) (k := 25) c1 ft_X7_72 rfl (by decide +kernel) ?_
      refine s_iload (pc := 91) (i := 4) 0 rfl (by decide +kernel) ?_
      refine S_gd (fun c15 => ?_)
      refine s_iald (pc := 93) c13 c15 (by decide +kernel) ?_
      refine s_i2l (pc := 94) (by decide +kernel) ?_
      refine s_aload_n (pc := 95) (k0 := 0) (i := 0) rfl 1 rfl (by decide +kernel) ?_
      refine s_getR (pc := 96) (k := 25) c1 ft_X7_72 rfl (by decide +kernel) ?_
      refine s_iload (pc := 99) (i := 4) 0 rfl (by decide +kernel) ?_
      refine s_iconst (pc := 101) (n := 3) (v := (3 : Int32)) (by decide) (by decide +kernel) ?_
      refine s_iadd (pc := 102) (by decide +kernel) ?_
      refine S_gd (fun c16 => ?_)
      refine s_iald (pc := 103) c13 c16 (by decide +kernel) ?_
      refine s_i2l (pc := 104) (by decide +kernel) ?_
      refine s_aload_n (pc := 105) (k0 := 0) (i := 0) rfl 1 rfl (by decide +kernel) ?_
      refine s_getR (pc := 106) (k := 25) c1 ft_X7_72 rfl (by decide +kernel) ?_
      refine s_iload (pc := 109) (i := 4) 0 rfl (by decide +kernel) ?_
      refine s_iconst (pc := 111) (n := 2) (v := (2 : Int32)) (by decide) (by decide +kernel) ?_
      refine s_iadd (pc := 112) (by decide +kernel) ?_
      refine S_gd (fun c17 => ?_)
      refine s_iald (pc := 113) c13 c17 (by decide +kernel) ?_
      refine s_i2l (pc := 114) (by decide +kernel) ?_
      refine s_cVv (pc := 115) [.long ((hI h (hR h a0 25) (v5 + (1 : Int32)).toNatClampNeg).toInt64), .long ((hI h (hR h a0 25) v5.toNatClampNeg).toInt64), .long ((hI h (hR h a0 25) (v5 + (3 : Int32)).toNatClampNeg).toInt64), .long ((hI h (hR h a0 25) (v5 + (2 : Int32)).toNatClampNeg).toInt64)] (tX7_lineBy a0 ((hI h (hR h a0 25) (v5 + (1 : Int32)).toNatClampNeg).toInt64) ((hI h (hR h a0 25) v5.toNatClampNeg).toInt64) ((hI h (hR h a0 25) (v5 + (3 : Int32)).toNatClampNeg).toInt64) ((hI h (hR h a0 25) (v5 + (2 : Int32)).toNatClampNeg).toInt64) h) c1 cw_X7_185 rfl ⟨⟨Nat.le_of_ble_eq_true rfl, Nat.le_of_ble_eq_true rfl⟩, Nat.le_of_ble_eq_true rfl⟩ rfl (by decide +kernel) (fun _ g18 e19 => ?_)
      refine s_goto (pc := 118) (off := 45) 163 (by decide +kernel) (by decide) ?_
      refine S_sub [1, 2, 3] rfl ?_
      exact pX7_turn_b163 hr59 a0 a2 a3 g18
theorem pX7_turn_l59 {h0 : xH}   : ∀ (k : Nat)  (a0 : Nat) (a2 : Int32) (a3 : Int32) (h : xH), S emI kX7_turn h0 59 [(0, .ref a0), (2, .int a2), (3, .int a3)] [] h (fX7_turn_l59  k  a0 a2 a3 h) := by
  intro k
  induction k with
  | zero => intros; exact S_none
  | succ k ih => intro  a0 a2 a3 h; exact pX7_turn_b59 ih  a0 a2 a3 h
theorem pX7_turn_b46 {h0 : xH}    (a0 : Nat) (a1 : Int32) (a2 : Int32) (h : xH) : S emI kX7_turn h0 46 [(0, .ref a0), (1, .int a1), (2, .int a2)] [] h (fX7_turn_b46  a0 a1 a2 h) := by
  unfold fX7_turn_b46
  refine s_aload_n (pc := 46) (k0 := 0) (i := 0) rfl 0 rfl (by decide +kernel) ?_
  refine s_iload_n (pc := 47) (k0 := 1) (i := 1) rfl 1 rfl (by decide +kernel) ?_
  refine s_iconst (pc := 48) (n := 0) (v := (0 : Int32)) (by decide) (by decide +kernel) ?_
  refine S_gd (fun c1 => ?_)
  refine s_cVv (pc := 49) [.int a1, .int (0 : Int32)] (tX7_laySpans a0 a1 (0 : Int32) h) c1 cw_X7_181 rfl ⟨⟨Nat.le_of_ble_eq_true rfl, Nat.le_of_ble_eq_true rfl⟩, Nat.le_of_ble_eq_true rfl⟩ rfl (by decide +kernel) (fun _ g2 e3 => ?_)
  refine s_aload_n (pc := 52) (k0 := 0) (i := 0) rfl 0 rfl (by decide +kernel) ?_
  refine s_iconst (pc := 53) (n := 0) (v := (0 : Int32)) (by decide) (by decide +kernel) ?_
  have c4 := kp e3 c1 (by decide)
  refine s_putI (pc := 54) (k := 19) c4 ft_X7_158 (fw_7_19 _ _) rfl rfl (by decide +kernel) ?_
  refine s_nmH (o := g2) rfl (fun g5 e6 => ?_)
  refine s_iconst (pc := 57) (n := 0) (v := (0 : Int32)) (by decide) (by decide +kernel) ?_
  refine s_nmI (fun v7 => ?_)
  refine s_istore_n (pc := 58) (L' := [(3, .int v7), (0, .ref a0), (1, .int a1), (2, .int a2)]) (k0 := 3) (i := 3) rfl (by decide) rfl (by decide +kernel) ?_
  refine S_sub [1, 3, 0] rfl ?_
  exact pX7_turn_l59 FU a0 a2 v7 g5
theorem pX7_turn_e    (a0 : Nat) (a1 : Int32) (h : xH) : S emI kX7_turn h 0 [(0, .ref a0), (1, .int a1)] [] h (fX7_turn  a0 a1 h) := by
  unfold fX7_turn
  refine s_aload_n (pc := 0) (k0 := 0) (i := 0) rfl 0 rfl (by decide +kernel) ?_
  refine s_iconst (pc := 1) (n := 0) (v := (0 : Int32)) (by decide) (by decide +kernel) ?_
  refine S_gd (fun c1 => ?_)
  refine s_putI (pc := 2) (k := 0) c1 ft_X7_107 (fw_7_0 _ _) rfl rfl (by decide +kernel) ?_
  refine s_nmH (o := h) rfl (fun g2 e3 => ?_)
  refine s_iload_n (pc := 5) (k0 := 1) (i := 1) rfl 1 rfl (by decide +kernel) ?_
  refine s_cSi (pc := 6) [.int a1] (tX7_isStore a1 g2) cw_X7_247 rfl ⟨⟨Nat.le_of_ble_eq_true rfl, Nat.le_of_ble_eq_true rfl⟩, Nat.le_of_ble_eq_true rfl⟩ rfl (by decide +kernel) (fun w6 g4 e5 => ?_)
  refine s_if_ne (pc := 9) (off := 10) 19 (by decide +kernel) (by decide) (fun _ => ?_) (fun _ => ?_)
  · refine s_aload_n (pc := 12) (k0 := 0) (i := 0) rfl 0 rfl (by decide +kernel) ?_
    refine s_bipush (pc := 13) (n := -2) (v := (-2 : Int32)) (by decide) (by decide +kernel) ?_
    have c19 := kp (Le.tr e3 e5) c1 (by decide)
    refine s_cVi (pc := 15) [.int (-2 : Int32)] (tX7_refuse a0 (-2 : Int32) g4) c19 cw_X7_138 rfl ⟨⟨Nat.le_of_ble_eq_true rfl, Nat.le_of_ble_eq_true rfl⟩, Nat.le_of_ble_eq_true rfl⟩ rfl (by decide +kernel) (fun w22 g20 e21 => ?_)
    exact s_iret (pc := 18) rfl (by decide +kernel)
  · refine s_aload_n (pc := 19) (k0 := 0) (i := 0) rfl 0 rfl (by decide +kernel) ?_
    refine s_iload_n (pc := 20) (k0 := 1) (i := 1) rfl 1 rfl (by decide +kernel) ?_
    refine s_iconst (pc := 21) (n := 1) (v := (1 : Int32)) (by decide) (by decide +kernel) ?_
    have c7 := kp (Le.tr e3 e5) c1 (by decide)
    refine s_cVi (pc := 22) [.int a1, .int (1 : Int32)] (tX7_isStrict a0 a1 (1 : Int32) g4) c7 cw_X7_263 rfl ⟨⟨Nat.le_of_ble_eq_true rfl, Nat.le_of_ble_eq_true rfl⟩, Nat.le_of_ble_eq_true rfl⟩ rfl (by decide +kernel) (fun w10 g8 e9 => ?_)
    refine s_istore_n (pc := 25) (L' := [(2, .int w10), (0, .ref a0), (1, .int a1)]) (k0 := 2) (i := 2) rfl (by decide) rfl (by decide +kernel) ?_
    refine s_iload_n (pc := 26) (k0 := 2) (i := 2) rfl 0 rfl (by decide +kernel) ?_
    refine s_if_ne (pc := 27) (off := 19) 46 (by decide +kernel) (by decide) (fun _ => ?_) (fun _ => ?_)
    · refine s_aload_n (pc := 30) (k0 := 0) (i := 0) rfl 1 rfl (by decide +kernel) ?_
      refine s_iload_n (pc := 31) (k0 := 1) (i := 1) rfl 2 rfl (by decide +kernel) ?_
      refine s_iconst (pc := 32) (n := -1) (v := (-1 : Int32)) (by decide) (by decide +kernel) ?_
      have c11 := kp e9 c7 (by decide)
      refine s_cVi (pc := 33) [.int a1, .int (-1 : Int32)] (tX7_isStrict a0 a1 (-1 : Int32) g8) c11 cw_X7_263 rfl ⟨⟨Nat.le_of_ble_eq_true rfl, Nat.le_of_ble_eq_true rfl⟩, Nat.le_of_ble_eq_true rfl⟩ rfl (by decide +kernel) (fun w14 g12 e13 => ?_)
      refine s_if_ne (pc := 36) (off := 10) 46 (by decide +kernel) (by decide) (fun _ => ?_) (fun _ => ?_)
      · refine s_aload_n (pc := 39) (k0 := 0) (i := 0) rfl 1 rfl (by decide +kernel) ?_
        refine s_bipush (pc := 40) (n := -4) (v := (-4 : Int32)) (by decide) (by decide +kernel) ?_
        have c15 := kp e13 c11 (by decide)
        refine s_cVi (pc := 42) [.int (-4 : Int32)] (tX7_refuse a0 (-4 : Int32) g12) c15 cw_X7_138 rfl ⟨⟨Nat.le_of_ble_eq_true rfl, Nat.le_of_ble_eq_true rfl⟩, Nat.le_of_ble_eq_true rfl⟩ rfl (by decide +kernel) (fun w18 g16 e17 => ?_)
        exact s_iret (pc := 45) rfl (by decide +kernel)
      · refine S_sub [1, 2, 0] rfl ?_
        exact pX7_turn_b46 a0 a1 w10 g12
    · refine S_sub [1, 2, 0] rfl ?_
      exact pX7_turn_b46 a0 a1 w10 g8
theorem tX7_turn (a0 : Nat) (a1 : Int32) (h : xH) : Ct yX7_turn kX7_turn emI [.ref a0, .int a1] h (fX7_turn a0 a1 h) := Ct_of (by decide +kernel) rfl rfl rfl (Nat.le_of_ble_eq_true rfl) rfl (pX7_turn_e a0 a1 h)
def fX7_turnsUp   (a0 : Nat) (a1 : Int32) (a2 : Int32) (a3 : Int32) (h : xH) : Option (Int32 × xH) :=
  if kc h a0 = 7 then
  if kc h (hR h a0 33) = 8 then
  if ix (a1 - (1 : Int32)) (kl h (hR h a0 33)) then
  if ix (a1 - (2 : Int32)) (kl h (hR h a0 33)) then
  lt (((hI h (hR h a0 33) (a1 - (1 : Int32)).toNatClampNeg) - (hI h (hR h a0 33) (a1 - (2 : Int32)).toNatClampNeg)).toInt64) (fun v5 =>
  if kc h (hR h a0 34) = 8 then
  if ix (a1 - (1 : Int32)) (kl h (hR h a0 34)) then
  if ix (a1 - (2 : Int32)) (kl h (hR h a0 34)) then
  lt (((hI h (hR h a0 34) (a1 - (1 : Int32)).toNatClampNeg) - (hI h (hR h a0 34) (a1 - (2 : Int32)).toNatClampNeg)).toInt64) (fun v9 =>
  lt ((a2 - (hI h (hR h a0 33) (a1 - (1 : Int32)).toNatClampNeg)).toInt64) (fun v10 =>
  lt ((a3 - (hI h (hR h a0 34) (a1 - (1 : Int32)).toNatClampNeg)).toInt64) (fun v11 =>
  if (lg_cmp (v5 * v11) (v9 * v10)) ≤ 0 then (
  some ((0 : Int32), h))
  else (
  some ((1 : Int32), h)))))
  else none
  else none
  else none)
  else none
  else none
  else none
  else none
theorem pX7_turnsUp_e    (a0 : Nat) (a1 : Int32) (a2 : Int32) (a3 : Int32) (h : xH) : S emI kX7_turnsUp h 0 [(0, .ref a0), (1, .int a1), (2, .int a2), (3, .int a3)] [] h (fX7_turnsUp  a0 a1 a2 a3 h) := by
  unfold fX7_turnsUp
  refine s_aload_n (pc := 0) (k0 := 0) (i := 0) rfl 0 rfl (by decide +kernel) ?_
  refine S_gd (fun c1 => ?_)
  refine s_getR (pc := 1) (k := 33) c1 ft_X7_84 rfl (by decide +kernel) ?_
  refine s_iload_n (pc := 4) (k0 := 1) (i := 1) rfl 1 rfl (by decide +kernel) ?_
  refine s_iconst (pc := 5) (n := 1) (v := (1 : Int32)) (by decide) (by decide +kernel) ?_
  refine s_isub (pc := 6) (by decide +kernel) ?_
  refine S_gd (fun c2 => ?_)
  refine S_gd (fun c3 => ?_)
  refine s_iald (pc := 7) c2 c3 (by decide +kernel) ?_
  refine s_aload_n (pc := 8) (k0 := 0) (i := 0) rfl 0 rfl (by decide +kernel) ?_
  refine s_getR (pc := 9) (k := 33) c1 ft_X7_84 rfl (by decide +kernel) ?_
  refine s_iload_n (pc := 12) (k0 := 1) (i := 1) rfl 1 rfl (by decide +kernel) ?_
  refine s_iconst (pc := 13) (n := 2) (v := (2 : Int32)) (by decide) (by decide +kernel) ?_
  refine s_isub (pc := 14) (by decide +kernel) ?_
  refine S_gd (fun c4 => ?_)
  refine s_iald (pc := 15) c2 c4 (by decide +kernel) ?_
  refine s_isub (pc := 16) (by decide +kernel) ?_
  refine s_i2l (pc := 17) (by decide +kernel) ?_
  refine s_nmJ (fun v5 => ?_)
  refine s_lstore (pc := 18) (L' := [(4, .long v5), (0, .ref a0), (1, .int a1), (2, .int a2), (3, .int a3)]) (i := 4) (by decide) rfl (by decide +kernel) ?_
  refine s_aload_n (pc := 20) (k0 := 0) (i := 0) rfl 1 rfl (by decide +kernel) ?_
  refine s_getR (pc := 21) (k := 34) c1 ft_X7_87 rfl (by decide +kernel) ?_
  refine s_iload_n (pc := 24) (k0 := 1) (i := 1) rfl 2 rfl (by decide +kernel) ?_
  refine s_iconst (pc := 25) (n := 1) (v := (1 : Int32)) (by decide) (by decide +kernel) ?_
  refine s_isub (pc := 26) (by decide +kernel) ?_
  refine S_gd (fun c6 => ?_)
  refine S_gd (fun c7 => ?_)
  refine s_iald (pc := 27) c6 c7 (by decide +kernel) ?_
  refine s_aload_n (pc := 28) (k0 := 0) (i := 0) rfl 1 rfl (by decide +kernel) ?_
  refine s_getR (pc := 29) (k := 34) c1 ft_X7_87 rfl (by decide +kernel) ?_
  refine s_iload_n (pc := 32) (k0 := 1) (i := 1) rfl 2 rfl (by decide +kernel) ?_
  refine s_iconst (pc := 33) (n := 2) (v := (2 : Int32)) (by decide) (by decide +kernel) ?_
  refine s_isub (pc := 34) (by decide +kernel) ?_
  refine S_gd (fun c8 => ?_)
  refine s_iald (pc := 35) c6 c8 (by decide +kernel) ?_
  refine s_isub (pc := 36) (by decide +kernel) ?_
  refine s_i2l (pc := 37) (by decide +kernel) ?_
  refine s_nmJ (fun v9 => ?_)
  refine s_lstore (pc := 38) (L' := [(6, .long v9), (4, .long v5), (0, .ref a0), (1, .int a1), (2, .int a2), (3, .int a3)]) (i := 6) (by decide) rfl (by decide +kernel) ?_
  refine s_iload_n (pc := 40) (k0 := 2) (i := 2) rfl 4 rfl (by decide +kernel) ?_
  refine s_aload_n (pc := 41) (k0 := 0) (i := 0) rfl 2 rfl (by decide +kernel) ?_
  refine s_getR (pc := 42) (k := 33) c1 ft_X7_84 rfl (by decide +kernel) ?_
  refine s_iload_n (pc := 45) (k0 := 1) (i := 1) rfl 3 rfl (by decide +kernel) ?_
  refine s_iconst (pc := 46) (n := 1) (v := (1 : Int32)) (by decide) (by decide +kernel) ?_
  refine s_isub (pc := 47) (by decide +kernel) ?_
  refine s_iald (pc := 48) c2 c3 (by decide +kernel) ?_
  refine s_isub (pc := 49) (by decide +kernel) ?_
  refine s_i2l (pc := 50) (by decide +kernel) ?_
  refine s_nmJ (fun v10 => ?_)
  refine s_lstore (pc := 51) (L' := [(8, .long v10), (6, .long v9), (4, .long v5), (0, .ref a0), (1, .int a1), (2, .int a2), (3, .int a3)]) (i := 8) (by decide) rfl (by decide +kernel) ?_
  refine s_iload_n (pc := 53) (k0 := 3) (i := 3) rfl 6 rfl (by decide +kernel) ?_
  refine s_aload_n (pc := 54) (k0 := 0) (i := 0) rfl 3 rfl (by decide +kernel) ?_
  refine s_getR (pc := 55) (k := 34) c1 ft_X7_87 rfl (by decide +kernel) ?_
  refine s_iload_n (pc := 58) (k0 := 1) (i := 1) rfl 4 rfl (by decide +kernel) ?_
  refine s_iconst (pc := 59) (n := 1) (v := (1 : Int32)) (by decide) (by decide +kernel) ?_
  refine s_isub (pc := 60) (by decide +kernel) ?_
  refine s_iald (pc := 61) c6 c7 (by decide +kernel) ?_
  refine s_isub (pc := 62) (by decide +kernel) ?_
  refine s_i2l (pc := 63) (by decide +kernel) ?_
  refine s_nmJ (fun v11 => ?_)
  refine s_lstore (pc := 64) (L' := [(10, .long v11), (8, .long v10), (6, .long v9), (4, .long v5), (0, .ref a0), (1, .int a1), (2, .int a2), (3, .int a3)]) (i := 10) (by decide) rfl (by decide +kernel) ?_
  refine s_lload (pc := 66) (i := 4) 3 rfl (by decide +kernel) ?_
  refine s_lload (pc := 68) (i := 10) 0 rfl (by decide +kernel) ?_
  refine s_lmul (pc := 70) (by decide +kernel) ?_
  refine s_lload (pc := 71) (i := 6) 2 rfl (by decide +kernel) ?_
  refine s_lload (pc := 73) (i := 8) 1 rfl (by decide +kernel) ?_
  refine s_lmul (pc := 75) (by decide +kernel) ?_
  refine s_lcmp (pc := 76) (by decide +kernel) ?_
  refine s_if_le (pc := 77) (off := 7) 84 (by decide +kernel) (by decide) (fun _ => ?_) (fun _ => ?_)
  · refine s_iconst (pc := 84) (n := 0) (v := (0 : Int32)) (by decide) (by decide +kernel) ?_
    exact s_zret (pc := 85) (by decide) rfl (by decide +kernel)
  · refine s_iconst (pc := 80) (n := 1) (v := (1 : Int32)) (by decide) (by decide +kernel) ?_
    refine s_goto (pc := 81) (off := 4) 85 (by decide +kernel) (by decide) ?_
    exact s_zret (pc := 85) (by decide) rfl (by decide +kernel)
theorem tX7_turnsUp (a0 : Nat) (a1 : Int32) (a2 : Int32) (a3 : Int32) (h : xH) : Ct yX7_turnsUp kX7_turnsUp emI [.ref a0, .int a1, .int a2, .int a3] h (fX7_turnsUp a0 a1 a2 a3 h) := Ct_of (by decide +kernel) rfl rfl rfl (Nat.le_of_ble_eq_true rfl) rfl (pX7_turnsUp_e a0 a1 a2 a3 h)
def fX7_hull_b157 (r23 : Nat → Int32 → Int32 → Int32 → xH → Option (Int32 × xH))  (a0 : Nat) (a1 : Int32) (a2 : Int32) (a3 : Int32) (h : xH) : Option (Int32 × xH) :=
  lt (a3 + (1 : Int32)) (fun v1 =>
  r23 a0 a1 a2 v1 h)
def fX7_hull_b138 (r23 : Nat → Int32 → Int32 → Int32 → xH → Option (Int32 × xH))  (a0 : Nat) (a1 : Int32) (a2 : Int32) (a3 : Int32) (a4 : Int32) (a5 : Int32) (h : xH) : Option (Int32 × xH) :=
  if kc h a0 = 7 then
  if kc h (hR h a0 33) = 8 then
  if ix a2 (kl h (hR h a0 33)) then
  lt (sI h (hR h a0 33) a2.toNatClampNeg a4) (fun g4 =>
  if kc g4 (hR g4 a0 34) = 8 then
  if ix a2 (kl g4 (hR g4 a0 34)) then
  lt (sI g4 (hR g4 a0 34) a2.toNatClampNeg a5) (fun g9 =>
  lt (a2 + (1 : Int32)) (fun v11 =>
  fX7_hull_b157 r23 a0 a1 v11 a3 g9))
  else none
  else none)
  else none
  else none
  else none
def fX7_hull_b115 (r23 : Nat → Int32 → Int32 → Int32 → xH → Option (Int32 × xH)) (r115 : Nat → Int32 → Int32 → Int32 → Int32 → Int32 → xH → Option (Int32 × xH))  (a0 : Nat) (a1 : Int32) (a2 : Int32) (a3 : Int32) (a4 : Int32) (a5 : Int32) (h : xH) : Option (Int32 × xH) :=
  if a2 ≤ (1 : Int32) then (
  fX7_hull_b138 r23 a0 a1 a2 a3 a4 a5 h)
  else (
  if kc h a0 = 7 then
  bd (fX7_turnsUp a0 a2 a4 a5 h) (fun w4 g2 =>
  if w4 = 0 then (
  lt (a2 + (-1 : Int32)) (fun v5 =>
  r115 a0 a1 v5 a3 a4 a5 g2))
  else (
  fX7_hull_b138 r23 a0 a1 a2 a3 a4 a5 g2))
  else none)
def fX7_hull_l115 (r23 : Nat → Int32 → Int32 → Int32 → xH → Option (Int32 × xH)) : Nat → Nat → Int32 → Int32 → Int32 → Int32 → Int32 → xH → Option (Int32 × xH)
  | 0 => fun _ _ _ _ _ _ _ => none
  | k + 1 => fX7_hull_b115 r23 (fX7_hull_l115 r23 k)
def fX7_hull_b113 (r23 : Nat → Int32 → Int32 → Int32 → xH → Option (Int32 × xH)) (s0 : Int32) (s1 : Int32) (a0 : Nat) (a1 : Int32) (a3 : Int32) (a4 : Int32) (a5 : Int32) (h : xH) : Option (Int32 × xH) :=
  lt (s1 - s0) (fun v1 =>
  fX7_hull_l115 r23 FU a0 a1 v1 a3 a4 a5 h)
def fX7_hull_b112 (r23 : Nat → Int32 → Int32 → Int32 → xH → Option (Int32 × xH)) (s0 : Int32) (a0 : Nat) (a1 : Int32) (a3 : Int32) (a4 : Int32) (a5 : Int32) (h : xH) : Option (Int32 × xH) :=
  fX7_hull_b113 r23 (0 : Int32) s0 a0 a1 a3 a4 a5 h
def fX7_hull_b83 (r23 : Nat → Int32 → Int32 → Int32 → xH → Option (Int32 × xH)) (s0 : Int32) (a0 : Nat) (a1 : Int32) (a2 : Int32) (a3 : Int32) (a4 : Int32) (a5 : Int32) (h : xH) : Option (Int32 × xH) :=
  if s0 = 0 then (
  if a2 ≤ 0 then (
  fX7_hull_b112 r23 a2 a0 a1 a3 a4 a5 h)
  else (
  if kc h a0 = 7 then
  if kc h (hR h a0 33) = 8 then
  if ix (a2 - (1 : Int32)) (kl h (hR h a0 33)) then
  if (hI h (hR h a0 33) (a2 - (1 : Int32)).toNatClampNeg) = a4 then (
  fX7_hull_b113 r23 (1 : Int32) a2 a0 a1 a3 a4 a5 h)
  else (
  fX7_hull_b112 r23 a2 a0 a1 a3 a4 a5 h)
  else none
  else none
  else none))
  else (
  fX7_hull_b157 r23 a0 a1 a2 a3 h)
def fX7_hull_b82 (r23 : Nat → Int32 → Int32 → Int32 → xH → Option (Int32 × xH))  (a0 : Nat) (a1 : Int32) (a2 : Int32) (a3 : Int32) (a4 : Int32) (a5 : Int32) (h : xH) : Option (Int32 × xH) :=
  fX7_hull_b83 r23 (0 : Int32) a0 a1 a2 a3 a4 a5 h
def fX7_hull_b198 (r170 : Nat → Int32 → Int32 → xH → Option (Int32 × xH)) (s0 : Int32) (a0 : Nat) (a2 : Int32) (a3 : Int32) (h : xH) : Option (Int32 × xH) :=
  if kc h a0 = 7 then
  if kc h (hR h a0 33) = 8 then
  if ix a3 (kl h (hR h a0 33)) then
  if kc h (hR h a0 34) = 8 then
  if ix a3 (kl h (hR h a0 34)) then
  if ix s0 (kl h (hR h a0 33)) then
  if ix s0 (kl h (hR h a0 34)) then
  bd (fX7_lineBy a0 ((hI h (hR h a0 33) a3.toNatClampNeg).toInt64) ((hI h (hR h a0 34) a3.toNatClampNeg).toInt64) ((hI h (hR h a0 33) s0.toNatClampNeg).toInt64) ((hI h (hR h a0 34) s0.toNatClampNeg).toInt64) h) (fun _ g8 =>
  lt (a3 + (1 : Int32)) (fun v10 =>
  r170 a0 a2 v10 g8))
  else none
  else none
  else none
  else none
  else none
  else none
  else none
def fX7_hull_b186 (r170 : Nat → Int32 → Int32 → xH → Option (Int32 × xH))  (a0 : Nat) (a2 : Int32) (a3 : Int32) (h : xH) : Option (Int32 × xH) :=
  if a2 = (1 : Int32) then (
  fX7_hull_b198 r170 (0 : Int32) a0 a2 a3 h)
  else (
  fX7_hull_b198 r170 (a3 + (1 : Int32)) a0 a2 a3 h)
def fX7_hull_b240   (a0 : Nat) (h : xH) : Option (Int32 × xH) :=
  if kc h a0 = 7 then
  bd (fX7_onto a0 (7 : Int32) h) (fun w4 g2 =>
  some (w4, g2))
  else none
def fX7_hull_b170 (r170 : Nat → Int32 → Int32 → xH → Option (Int32 × xH))  (a0 : Nat) (a2 : Int32) (a3 : Int32) (h : xH) : Option (Int32 × xH) :=
  if (a3 + (1 : Int32)) < a2 then (
  fX7_hull_b186 r170 a0 a2 a3 h)
  else (
  if a3 = 0 then (
  if a2 = (1 : Int32) then (
  fX7_hull_b186 r170 a0 a2 a3 h)
  else (
  fX7_hull_b240 a0 h))
  else (
  fX7_hull_b240 a0 h))
def fX7_hull_l170  : Nat → Nat → Int32 → Int32 → xH → Option (Int32 × xH)
  | 0 => fun _ _ _ _ => none
  | k + 1 => fX7_hull_b170 (fX7_hull_l170  k)
def fX7_hull_b23 (r23 : Nat → Int32 → Int32 → Int32 → xH → Option (Int32 × xH))  (a0 : Nat) (a1 : Int32) (a2 : Int32) (a3 : Int32) (h : xH) : Option (Int32 × xH) :=
  if kc h a0 = 7 then
  bd (fX7_many a0 a1 h) (fun w4 g2 =>
  if w4 ≤ a3 then (
  lt (sI g2 a0 19 (0 : Int32)) (fun g6 =>
  lt (0 : Int32) (fun v8 =>
  fX7_hull_l170 FU a0 a2 v8 g6)))
  else (
  bd (fX7_xOf a0 a1 a3 g2) (fun w12 g10 =>
  bd (fX7_yOf a0 a1 a3 g10) (fun w16 g14 =>
  if a2 ≤ 0 then (
  fX7_hull_b82 r23 a0 a1 a2 a3 w12 w16 g14)
  else (
  if kc g14 (hR g14 a0 33) = 8 then
  if ix (a2 - (1 : Int32)) (kl g14 (hR g14 a0 33)) then
  if (hI g14 (hR g14 a0 33) (a2 - (1 : Int32)).toNatClampNeg) = w12 then (
  if kc g14 (hR g14 a0 34) = 8 then
  if ix (a2 - (1 : Int32)) (kl g14 (hR g14 a0 34)) then
  if w16 < (hI g14 (hR g14 a0 34) (a2 - (1 : Int32)).toNatClampNeg) then (
  fX7_hull_b82 r23 a0 a1 a2 a3 w12 w16 g14)
  else (
  fX7_hull_b83 r23 (1 : Int32) a0 a1 a2 a3 w12 w16 g14)
  else none
  else none)
  else (
  fX7_hull_b82 r23 a0 a1 a2 a3 w12 w16 g14)
  else none
  else none)))))
  else none
def fX7_hull_l23  : Nat → Nat → Int32 → Int32 → Int32 → xH → Option (Int32 × xH)
  | 0 => fun _ _ _ _ _ => none
  | k + 1 => fX7_hull_b23 (fX7_hull_l23  k)
def fX7_hull   (a0 : Nat) (a1 : Int32) (h : xH) : Option (Int32 × xH) :=
  if kc h a0 = 7 then
  lt (sI h a0 0 (0 : Int32)) (fun g2 =>
  bd (fX7_isStore a1 g2) (fun w6 g4 =>
  if w6 = 0 then (
  bd (fX7_refuse a0 (-2 : Int32) g4) (fun w12 g10 =>
  some (w12, g10)))
  else (
  lt (0 : Int32) (fun v7 =>
  lt (0 : Int32) (fun v8 =>
  fX7_hull_l23 FU a0 a1 v7 v8 g4)))))
  else none
theorem pX7_hull_b157 {h0 : xH} {r23 : Nat → Int32 → Int32 → Int32 → xH → Option (Int32 × xH)} (hr23 : ∀  (a0 : Nat) (a1 : Int32) (a2 : Int32) (a3 : Int32) (g : xH), S emI kX7_hull h0 23 [(0, .ref a0), (1, .int a1), (2, .int a2), (3, .int a3)] [] g (r23  a0 a1 a2 a3 g))  (a0 : Nat) (a1 : Int32) (a2 : Int32) (a3 : Int32) (h : xH) : S emI kX7_hull h0 157 [(0, .ref a0), (1, .int a1), (2, .int a2), (3, .int a3)] [] h (fX7_hull_b157 r23 a0 a1 a2 a3 h) := by
  unfold fX7_hull_b157
  refine s_iinc (pc := 157) (L' := [(3, .int (a3 + (1 : Int32))), (0, .ref a0), (1, .int a1), (2, .int a2)]) (i := 3) (n := 1) 3 rfl rfl (by decide) rfl (by decide +kernel) ?_
  refine s_nmI0 (e := a3 + (1 : Int32)) (L := fun v1 => [(3, .int v1), (0, .ref a0), (1, .int a1), (2, .int a2)]) (fun v1 => ?_)
  refine s_goto (pc := 160) (off := -137) 23 (by decide +kernel) (by decide) ?_
  refine S_sub [1, 2, 3, 0] rfl ?_
  exact hr23 a0 a1 a2 v1 h
theorem pX7_hull_b138 {h0 : xH} {r23 : Nat → Int32 → Int32 → Int32 → xH → Option (Int32 × xH)} (hr23 : ∀  (a0 : Nat) (a1 : Int32) (a2 : Int32) (a3 : Int32) (g : xH), S emI kX7_hull h0 23 [(0, .ref a0), (1, .int a1), (2, .int a2), (3, .int a3)] [] g (r23  a0 a1 a2 a3 g))  (a0 : Nat) (a1 : Int32) (a2 : Int32) (a3 : Int32) (a4 : Int32) (a5 : Int32) (h : xH) : S emI kX7_hull h0 138 [(0, .ref a0), (1, .int a1), (2, .int a2), (3, .int a3), (4, .int a4), (5, .int a5)] [] h (fX7_hull_b138 r23 a0 a1 a2 a3 a4 a5 h) := by
  unfold fX7_hull_b138
  refine s_aload_n (pc := 138) (k0 := 0) (i := 0) rfl 0 rfl (by decide +kernel) ?_
  refine S_gd (fun c1 => ?_)
  refine s_getR (pc := 139) (k := 33) c1 ft_X7_84 rfl (by decide +kernel) ?_
  refine s_iload_n (pc := 142) (k0 := 2) (i := 2) rfl 2 rfl (by decide +kernel) ?_
  refine s_iload (pc := 143) (i := 4) 4 rfl (by decide +kernel) ?_
  refine S_gd (fun c2 => ?_)
  refine S_gd (fun c3 => ?_)
  refine s_iast (pc := 145) c2 c3 (by decide +kernel) ?_
  refine s_nmH (o := h) rfl (fun g4 e5 => ?_)
  refine s_aload_n (pc := 146) (k0 := 0) (i := 0) rfl 0 rfl (by decide +kernel) ?_
  have c6 := kp e5 c1 (by decide)
  refine s_getR (pc := 147) (k := 34) c6 ft_X7_87 rfl (by decide +kernel) ?_
  refine s_iload_n (pc := 150) (k0 := 2) (i := 2) rfl 2 rfl (by decide +kernel) ?_
  refine s_iload (pc := 151) (i := 5) 5 rfl (by decide +kernel) ?_
  refine S_gd (fun c7 => ?_)
  refine S_gd (fun c8 => ?_)
  refine s_iast (pc := 153) c7 c8 (by decide +kernel) ?_
  refine s_nmH (o := g4) rfl (fun g9 e10 => ?_)
  refine s_iinc (pc := 154) (L' := [(2, .int (a2 + (1 : Int32))), (0, .ref a0), (1, .int a1), (3, .int a3), (4, .int a4), (5, .int a5)]) (i := 2) (n := 1) 2 rfl rfl (by decide) rfl (by decide +kernel) ?_
  refine s_nmI0 (e := a2 + (1 : Int32)) (L := fun v11 => [(2, .int v11), (0, .ref a0), (1, .int a1), (3, .int a3), (4, .int a4), (5, .int a5)]) (fun v11 => ?_)
  refine S_sub [1, 2, 0, 3] rfl ?_
  exact pX7_hull_b157 hr23 a0 a1 v11 a3 g9
theorem pX7_hull_b115 {h0 : xH} {r23 : Nat → Int32 → Int32 → Int32 → xH → Option (Int32 × xH)} {r115 : Nat → Int32 → Int32 → Int32 → Int32 → Int32 → xH → Option (Int32 × xH)} (hr23 : ∀  (a0 : Nat) (a1 : Int32) (a2 : Int32) (a3 : Int32) (g : xH), S emI kX7_hull h0 23 [(0, .ref a0), (1, .int a1), (2, .int a2), (3, .int a3)] [] g (r23  a0 a1 a2 a3 g)) (hr115 : ∀  (a0 : Nat) (a1 : Int32) (a2 : Int32) (a3 : Int32) (a4 : Int32) (a5 : Int32) (g : xH), S emI kX7_hull h0 115 [(0, .ref a0), (1, .int a1), (2, .int a2), (3, .int a3), (4, .int a4), (5, .int a5)] [] g (r115  a0 a1 a2 a3 a4 a5 g))  (a0 : Nat) (a1 : Int32) (a2 : Int32) (a3 : Int32) (a4 : Int32) (a5 : Int32) (h : xH) : S emI kX7_hull h0 115 [(0, .ref a0), (1, .int a1), (2, .int a2), (3, .int a3), (4, .int a4), (5, .int a5)] [] h (fX7_hull_b115 r23 r115 a0 a1 a2 a3 a4 a5 h) := by
  unfold fX7_hull_b115
  refine s_iload_n (pc := 115) (k0 := 2) (i := 2) rfl 2 rfl (by decide +kernel) ?_
  refine s_iconst (pc := 116) (n := 1) (v := (1 : Int32)) (by decide) (by decide +kernel) ?_
  refine s_icmp_le (pc := 117) (off := 21) 138 (by decide +kernel) (by decide) (fun _ => ?_) (fun _ => ?_)
  · exact pX7_hull_b138 hr23 a0 a1 a2 a3 a4 a5 h
  · refine s_aload_n (pc := 120) (k0 := 0) (i := 0) rfl 0 rfl (by decide +kernel) ?_
    refine s_iload_n (pc := 121) (k0 := 2) (i := 2) rfl 2 rfl (by decide +kernel) ?_
    refine s_iload (pc := 122) (i := 4) 4 rfl (by decide +kernel) ?_
    refine s_iload (pc := 124) (i := 5) 5 rfl (by decide +kernel) ?_
    refine S_gd (fun c1 => ?_)
    refine s_cVi (pc := 126) [.int a2, .int a4, .int a5] (tX7_turnsUp a0 a2 a4 a5 h) c1 cw_X7_266 rfl ⟨⟨Nat.le_of_ble_eq_true rfl, Nat.le_of_ble_eq_true rfl⟩, Nat.le_of_ble_eq_true rfl⟩ rfl (by decide +kernel) (fun w4 g2 e3 => ?_)
    refine s_if_ne (pc := 129) (off := 9) 138 (by decide +kernel) (by decide) (fun _ => ?_) (fun _ => ?_)
    · refine s_iinc (pc := 132) (L' := [(2, .int (a2 + (-1 : Int32))), (0, .ref a0), (1, .int a1), (3, .int a3), (4, .int a4), (5, .int a5)]) (i := 2) (n := -1) 2 rfl rfl (by decide) rfl (by decide +kernel) ?_
      refine s_nmI0 (e := a2 + (-1 : Int32)) (L := fun v5 => [(2, .int v5), (0, .ref a0), (1, .int a1), (3, .int a3), (4, .int a4), (5, .int a5)]) (fun v5 => ?_)
      refine s_goto (pc := 135) (off := -20) 115 (by decide +kernel) (by decide) ?_
      refine S_sub [1, 2, 0, 3, 4, 5] rfl ?_
      exact hr115 a0 a1 v5 a3 a4 a5 g2
    · exact pX7_hull_b138 hr23 a0 a1 a2 a3 a4 a5 g2
theorem pX7_hull_l115 {h0 : xH} {r23 : Nat → Int32 → Int32 → Int32 → xH → Option (Int32 × xH)} (hr23 : ∀  (a0 : Nat) (a1 : Int32) (a2 : Int32) (a3 : Int32) (g : xH), S emI kX7_hull h0 23 [(0, .ref a0), (1, .int a1), (2, .int a2), (3, .int a3)] [] g (r23  a0 a1 a2 a3 g)) : ∀ (k : Nat)  (a0 : Nat) (a1 : Int32) (a2 : Int32) (a3 : Int32) (a4 : Int32) (a5 : Int32) (h : xH), S emI kX7_hull h0 115 [(0, .ref a0), (1, .int a1), (2, .int a2), (3, .int a3), (4, .int a4), (5, .int a5)] [] h (fX7_hull_l115 r23 k  a0 a1 a2 a3 a4 a5 h) := by
  intro k
  induction k with
  | zero => intros; exact S_none
  | succ k ih => intro  a0 a1 a2 a3 a4 a5 h; exact pX7_hull_b115 hr23 ih  a0 a1 a2 a3 a4 a5 h
theorem pX7_hull_b113 {h0 : xH} {r23 : Nat → Int32 → Int32 → Int32 → xH → Option (Int32 × xH)} (hr23 : ∀  (a0 : Nat) (a1 : Int32) (a2 : Int32) (a3 : Int32) (g : xH), S emI kX7_hull h0 23 [(0, .ref a0), (1, .int a1), (2, .int a2), (3, .int a3)] [] g (r23  a0 a1 a2 a3 g)) (s0 : Int32) (s1 : Int32) (a0 : Nat) (a1 : Int32) (a3 : Int32) (a4 : Int32) (a5 : Int32) (h : xH) : S emI kX7_hull h0 113 [(0, .ref a0), (1, .int a1), (3, .int a3), (4, .int a4), (5, .int a5)] [.int s0, .int s1] h (fX7_hull_b113 r23 s0 s1 a0 a1 a3 a4 a5 h) := by
  unfold fX7_hull_b113
  refine s_isub (pc := 113) (by decide +kernel) ?_
  refine s_nmI (fun v1 => ?_)
  refine s_istore_n (pc := 114) (L' := [(2, .int v1), (0, .ref a0), (1, .int a1), (3, .int a3), (4, .int a4), (5, .int a5)]) (k0 := 2) (i := 2) rfl (by decide) rfl (by decide +kernel) ?_
  refine S_sub [1, 2, 0, 3, 4, 5] rfl ?_
  exact pX7_hull_l115 hr23 FU a0 a1 v1 a3 a4 a5 h
theorem pX7_hull_b112 {h0 : xH} {r23 : Nat → Int32 → Int32 → Int32 → xH → Option (Int32 × xH)} (hr23 : ∀  (a0 : Nat) (a1 : Int32) (a2 : Int32) (a3 : Int32) (g : xH), S emI kX7_hull h0 23 [(0, .ref a0), (1, .int a1), (2, .int a2), (3, .int a3)] [] g (r23  a0 a1 a2 a3 g)) (s0 : Int32) (a0 : Nat) (a1 : Int32) (a3 : Int32) (a4 : Int32) (a5 : Int32) (h : xH) : S emI kX7_hull h0 112 [(0, .ref a0), (1, .int a1), (3, .int a3), (4, .int a4), (5, .int a5)] [.int s0] h (fX7_hull_b112 r23 s0 a0 a1 a3 a4 a5 h) := by
  unfold fX7_hull_b112
  refine s_iconst (pc := 112) (n := 0) (v := (0 : Int32)) (by decide) (by decide +kernel) ?_
  exact pX7_hull_b113 hr23 (0 : Int32) s0 a0 a1 a3 a4 a5 h
theorem pX7_hull_b83 {h0 : xH} {r23 : Nat → Int32 → Int32 → Int32 → xH → Option (Int32 × xH)} (hr23 : ∀  (a0 : Nat) (a1 : Int32) (a2 : Int32) (a3 : Int32) (g : xH), S emI kX7_hull h0 23 [(0, .ref a0), (1, .int a1), (2, .int a2), (3, .int a3)] [] g (r23  a0 a1 a2 a3 g)) (s0 : Int32) (a0 : Nat) (a1 : Int32) (a2 : Int32) (a3 : Int32) (a4 : Int32) (a5 : Int32) (h : xH) : S emI kX7_hull h0 83 [(0, .ref a0), (1, .int a1), (2, .int a2), (3, .int a3), (4, .int a4), (5, .int a5)] [.int s0] h (fX7_hull_b83 r23 s0 a0 a1 a2 a3 a4 a5 h) := by
  unfold fX7_hull_b83
  refine s_istore (pc := 83) (L' := [(6, .int s0), (0, .ref a0), (1, .int a1), (2, .int a2), (3, .int a3), (4, .int a4), (5, .int a5)]) (i := 6) (by decide) rfl (by decide +kernel) ?_
  refine s_iload (pc := 85) (i := 6) 0 rfl (by decide +kernel) ?_
  refine s_if_ne (pc := 87) (off := 70) 157 (by decide +kernel) (by decide) (fun _ => ?_) (fun _ => ?_)
  · refine s_iload_n (pc := 90) (k0 := 2) (i := 2) rfl 3 rfl (by decide +kernel) ?_
    refine s_iload_n (pc := 91) (k0 := 2) (i := 2) rfl 3 rfl (by decide +kernel) ?_
    refine s_if_le (pc := 92) (off := 20) 112 (by decide +kernel) (by decide) (fun _ => ?_) (fun _ => ?_)
    · refine S_sub [1, 2, 4, 5, 6] rfl ?_
      exact pX7_hull_b112 hr23 a2 a0 a1 a3 a4 a5 h
    · refine s_aload_n (pc := 95) (k0 := 0) (i := 0) rfl 1 rfl (by decide +kernel) ?_
      refine S_gd (fun c1 => ?_)
      refine s_getR (pc := 96) (k := 33) c1 ft_X7_84 rfl (by decide +kernel) ?_
      refine s_iload_n (pc := 99) (k0 := 2) (i := 2) rfl 3 rfl (by decide +kernel) ?_
      refine s_iconst (pc := 100) (n := 1) (v := (1 : Int32)) (by decide) (by decide +kernel) ?_
      refine s_isub (pc := 101) (by decide +kernel) ?_
      refine S_gd (fun c2 => ?_)
      refine S_gd (fun c3 => ?_)
      refine s_iald (pc := 102) c2 c3 (by decide +kernel) ?_
      refine s_iload (pc := 103) (i := 4) 5 rfl (by decide +kernel) ?_
      refine s_icmp_ne (pc := 105) (off := 7) 112 (by decide +kernel) (by decide) (fun _ => ?_) (fun _ => ?_)
      · refine s_iconst (pc := 108) (n := 1) (v := (1 : Int32)) (by decide) (by decide +kernel) ?_
        refine s_goto (pc := 109) (off := 4) 113 (by decide +kernel) (by decide) ?_
        refine S_sub [1, 2, 4, 5, 6] rfl ?_
        exact pX7_hull_b113 hr23 (1 : Int32) a2 a0 a1 a3 a4 a5 h
      · refine S_sub [1, 2, 4, 5, 6] rfl ?_
        exact pX7_hull_b112 hr23 a2 a0 a1 a3 a4 a5 h
  · refine S_sub [1, 2, 3, 4] rfl ?_
    exact pX7_hull_b157 hr23 a0 a1 a2 a3 h
theorem pX7_hull_b82 {h0 : xH} {r23 : Nat → Int32 → Int32 → Int32 → xH → Option (Int32 × xH)} (hr23 : ∀  (a0 : Nat) (a1 : Int32) (a2 : Int32) (a3 : Int32) (g : xH), S emI kX7_hull h0 23 [(0, .ref a0), (1, .int a1), (2, .int a2), (3, .int a3)] [] g (r23  a0 a1 a2 a3 g))  (a0 : Nat) (a1 : Int32) (a2 : Int32) (a3 : Int32) (a4 : Int32) (a5 : Int32) (h : xH) : S emI kX7_hull h0 82 [(0, .ref a0), (1, .int a1), (2, .int a2), (3, .int a3), (4, .int a4), (5, .int a5)] [] h (fX7_hull_b82 r23 a0 a1 a2 a3 a4 a5 h) := by
  unfold fX7_hull_b82
  refine s_iconst (pc := 82) (n := 0) (v := (0 : Int32)) (by decide) (by decide +kernel) ?_
  exact pX7_hull_b83 hr23 (0 : Int32) a0 a1 a2 a3 a4 a5 h
theorem pX7_hull_b198 {h0 : xH} {r170 : Nat → Int32 → Int32 → xH → Option (Int32 × xH)} (hr170 : ∀  (a0 : Nat) (a2 : Int32) (a3 : Int32) (g : xH), S emI kX7_hull h0 170 [(0, .ref a0), (2, .int a2), (3, .int a3)] [] g (r170  a0 a2 a3 g)) (s0 : Int32) (a0 : Nat) (a2 : Int32) (a3 : Int32) (h : xH) : S emI kX7_hull h0 198 [(0, .ref a0), (2, .int a2), (3, .int a3)] [.int s0] h (fX7_hull_b198 r170 s0 a0 a2 a3 h) := by
  unfold fX7_hull_b198
  refine s_istore (pc := 198) (L' := [(4, .int s0), (0, .ref a0), (2, .int a2), (3, .int a3)]) (i := 4) (by decide) rfl (by decide +kernel) ?_
  refine s_aload_n (pc := 200) (k0 := 0) (i := 0) rfl 1 rfl (by decide +kernel) ?_
  refine s_aload_n (pc := 201) (k0 := 0) (i := 0) rfl 1 rfl (by decide +kernel) ?_
  refine S_gd (fun c1 => ?_)
  refine s_getR (pc := 202) (k := 33) c1 ft_X7_84 rfl (by decide +kernel) ?_
  refine s_iload_n (pc := 205) (k0 := 3) (i := 3) rfl 3 rfl (by decide +kernel) ?_
  refine S_gd (fun c2 => ?_)
  refine S_gd (fun c3 => ?_)
  refine s_iald (pc := 206) c2 c3 (by decide +kernel) ?_
  refine s_i2l (pc := 207) (by decide +kernel) ?_
  refine s_aload_n (pc := 208) (k0 := 0) (i := 0) rfl 1 rfl (by decide +kernel) ?_
  refine s_getR (pc := 209) (k := 34) c1 ft_X7_87 rfl (by decide +kernel) ?_
  refine s_iload_n (pc := 212) (k0 := 3) (i := 3) rfl 3 rfl (by decide +kernel) ?_
  refine S_gd (fun c4 => ?_)
  refine S_gd (fun c5 => ?_)
  refine s_iald (pc := 213) c4 c5 (by decide +kernel) ?_
  refine s_i2l (pc := 214) (by decide +kernel) ?_
  refine s_aload_n (pc := 215) (k0 := 0) (i := 0) rfl 1 rfl (by decide +kernel) ?_
  refine s_getR (pc := 216) (k := 33) c1 ft_X7_84 rfl (by decide +kernel) ?_
  refine s_iload (pc := 219) (i := 4) 0 rfl (by decide +kernel) ?_
  refine S_gd (fun c6 => ?_)
  refine s_iald (pc := 221) c2 c6 (by decide +kernel) ?_
  refine s_i2l (pc := 222) (by decide +kernel) ?_
  refine s_aload_n (pc := 223) (k0 := 0) (i := 0) rfl 1 rfl (by decide +kernel) ?_
  refine s_getR (pc := 224) (k := 34) c1 ft_X7_87 rfl (by decide +kernel) ?_
  refine s_iload (pc := 227) (i := 4) 0 rfl (by decide +kernel) ?_
  refine S_gd (fun c7 => ?_)
  refine s_iald (pc := 229) c4 c7 (by decide +kernel) ?_
  refine s_i2l (pc := 230) (by decide +kernel) ?_
  refine s_cVv (pc := 231) [.long ((hI h (hR h a0 33) a3.toNatClampNeg).toInt64), .long ((hI h (hR h a0 34) a3.toNatClampNeg).toInt64), .long ((hI h (hR h a0 33) s0.toNatClampNeg).toInt64), .long ((hI h (hR h a0 34) s0.toNatClampNeg).toInt64)] (tX7_lineBy a0 ((hI h (hR h a0 33) a3.toNatClampNeg).toInt64) ((hI h (hR h a0 34) a3.toNatClampNeg).toInt64) ((hI h (hR h a0 33) s0.toNatClampNeg).toInt64) ((hI h (hR h a0 34) s0.toNatClampNeg).toInt64) h) c1 cw_X7_185 rfl ⟨⟨Nat.le_of_ble_eq_true rfl, Nat.le_of_ble_eq_true rfl⟩, Nat.le_of_ble_eq_true rfl⟩ rfl (by decide +kernel) (fun _ g8 e9 => ?_)
  refine s_iinc (pc := 234) (L' := [(3, .int (a3 + (1 : Int32))), (4, .int s0), (0, .ref a0), (2, .int a2)]) (i := 3) (n := 1) 3 rfl rfl (by decide) rfl (by decide +kernel) ?_
  refine s_nmI0 (e := a3 + (1 : Int32)) (L := fun v10 => [(3, .int v10), (4, .int s0), (0, .ref a0), (2, .int a2)]) (fun v10 => ?_)
  refine s_goto (pc := 237) (off := -67) 170 (by decide +kernel) (by decide) ?_
  refine S_sub [2, 3, 0] rfl ?_
  exact hr170 a0 a2 v10 g8
theorem pX7_hull_b186 {h0 : xH} {r170 : Nat → Int32 → Int32 → xH → Option (Int32 × xH)} (hr170 : ∀  (a0 : Nat) (a2 : Int32) (a3 : Int32) (g : xH), S emI kX7_hull h0 170 [(0, .ref a0), (2, .int a2), (3, .int a3)] [] g (r170  a0 a2 a3 g))  (a0 : Nat) (a2 : Int32) (a3 : Int32) (h : xH) : S emI kX7_hull h0 186 [(0, .ref a0), (2, .int a2), (3, .int a3)] [] h (fX7_hull_b186 r170 a0 a2 a3 h) := by
  unfold fX7_hull_b186
  refine s_iload_n (pc := 186) (k0 := 2) (i := 2) rfl 1 rfl (by decide +kernel) ?_
  refine s_iconst (pc := 187) (n := 1) (v := (1 : Int32)) (by decide) (by decide +kernel) ?_
  refine s_icmp_ne (pc := 188) (off := 7) 195 (by decide +kernel) (by decide) (fun _ => ?_) (fun _ => ?_)
  · refine s_iconst (pc := 191) (n := 0) (v := (0 : Int32)) (by decide) (by decide +kernel) ?_
    refine s_goto (pc := 192) (off := 6) 198 (by decide +kernel) (by decide) ?_
    exact pX7_hull_b198 hr170 (0 : Int32) a0 a2 a3 h
  · refine s_iload_n (pc := 195) (k0 := 3) (i := 3) rfl 2 rfl (by decide +kernel) ?_
    refine s_iconst (pc := 196) (n := 1) (v := (1 : Int32)) (by decide) (by decide +kernel) ?_
    refine s_iadd (pc := 197) (by decide +kernel) ?_
    exact pX7_hull_b198 hr170 (a3 + (1 : Int32)) a0 a2 a3 h
theorem pX7_hull_b240 {h0 : xH}    (a0 : Nat) (h : xH) : S emI kX7_hull h0 240 [(0, .ref a0)] [] h (fX7_hull_b240  a0 h) := by
  unfold fX7_hull_b240
  refine s_aload_n (pc := 240) (k0 := 0) (i := 0) rfl 0 rfl (by decide +kernel) ?_
  refine s_bipush (pc := 241) (n := 7) (v := (7 : Int32)) (by decide) (by decide +kernel) ?_
  refine S_gd (fun c1 => ?_)
  refine s_cVi (pc := 243) [.int (7 : Int32)] (tX7_onto a0 (7 : Int32) h) c1 cw_X7_257 rfl ⟨⟨Nat.le_of_ble_eq_true rfl, Nat.le_of_ble_eq_true rfl⟩, Nat.le_of_ble_eq_true rfl⟩ rfl (by decide +kernel) (fun w4 g2 e3 => ?_)
  exact s_iret (pc := 246) rfl (by decide +kernel)
theorem pX7_hull_b170 {h0 : xH} {r170 : Nat → Int32 → Int32 → xH → Option (Int32 × xH)} (hr170 : ∀  (a0 : Nat) (a2 : Int32) (a3 : Int32) (g : xH), S emI kX7_hull h0 170 [(0, .ref a0), (2, .int a2), (3, .int a3)] [] g (r170  a0 a2 a3 g))  (a0 : Nat) (a2 : Int32) (a3 : Int32) (h : xH) : S emI kX7_hull h0 170 [(0, .ref a0), (2, .int a2), (3, .int a3)] [] h (fX7_hull_b170 r170 a0 a2 a3 h) := by
  unfold fX7_hull_b170
  refine s_iload_n (pc := 170) (k0 := 3) (i := 3) rfl 2 rfl (by decide +kernel) ?_
  refine s_iconst (pc := 171) (n := 1) (v := (1 : Int32)) (by decide) (by decide +kernel) ?_
  refine s_iadd (pc := 172) (by decide +kernel) ?_
  refine s_iload_n (pc := 173) (k0 := 2) (i := 2) rfl 1 rfl (by decide +kernel) ?_
  refine s_icmp_lt (pc := 174) (off := 12) 186 (by decide +kernel) (by decide) (fun _ => ?_) (fun _ => ?_)
  · exact pX7_hull_b186 hr170 a0 a2 a3 h
  · refine s_iload_n (pc := 177) (k0 := 3) (i := 3) rfl 2 rfl (by decide +kernel) ?_
    refine s_if_ne (pc := 178) (off := 62) 240 (by decide +kernel) (by decide) (fun _ => ?_) (fun _ => ?_)
    · refine s_iload_n (pc := 181) (k0 := 2) (i := 2) rfl 1 rfl (by decide +kernel) ?_
      refine s_iconst (pc := 182) (n := 1) (v := (1 : Int32)) (by decide) (by decide +kernel) ?_
      refine s_icmp_ne (pc := 183) (off := 57) 240 (by decide +kernel) (by decide) (fun _ => ?_) (fun _ => ?_)
      · exact pX7_hull_b186 hr170 a0 a2 a3 h
      · refine S_sub [0] rfl ?_
        exact pX7_hull_b240 a0 h
    · refine S_sub [0] rfl ?_
      exact pX7_hull_b240 a0 h
theorem pX7_hull_l170 {h0 : xH}   : ∀ (k : Nat)  (a0 : Nat) (a2 : Int32) (a3 : Int32) (h : xH), S emI kX7_hull h0 170 [(0, .ref a0), (2, .int a2), (3, .int a3)] [] h (fX7_hull_l170  k  a0 a2 a3 h) := by
  intro k
  induction k with
  | zero => intros; exact S_none
  | succ k ih => intro  a0 a2 a3 h; exact pX7_hull_b170 ih  a0 a2 a3 h
theorem pX7_hull_b23 {h0 : xH} {r23 : Nat → Int32 → Int32 → Int32 → xH → Option (Int32 × xH)} (hr23 : ∀  (a0 : Nat) (a1 : Int32) (a2 : Int32) (a3 : Int32) (g : xH), S emI kX7_hull h0 23 [(0, .ref a0), (1, .int a1), (2, .int a2), (3, .int a3)] [] g (r23  a0 a1 a2 a3 g))  (a0 : Nat) (a1 : Int32) (a2 : Int32) (a3 : Int32) (h : xH) : S emI kX7_hull h0 23 [(0, .ref a0), (1, .int a1), (2, .int a2), (3, .int a3)] [] h (fX7_hull_b23 r23 a0 a1 a2 a3 h) := by
  unfold fX7_hull_b23
  refine s_iload_n (pc := 23) (k0 := 3) (i := 3) rfl 3 rfl (by decide +kernel) ?_
  refine s_aload_n (pc := 24) (k0 := 0) (i := 0) rfl 0 rfl (by decide +kernel) ?_
  refine s_iload_n (pc := 25) (k0 := 1) (i := 1) rfl 1 rfl (by decide +kernel) ?_
  refine S_gd (fun c1 => ?_)
  refine s_cVi (pc := 26) [.int a1] (tX7_many a0 a1 h) c1 cw_X7_168 rfl ⟨⟨Nat.le_of_ble_eq_true rfl, Nat.le_of_ble_eq_true rfl⟩, Nat.le_of_ble_eq_true rfl⟩ rfl (by decide +kernel) (fun w4 g2 e3 => ?_)
  refine s_icmp_ge (pc := 29) (off := 134) 163 (by decide +kernel) (by decide) (fun _ => ?_) (fun _ => ?_)
  · refine s_aload_n (pc := 163) (k0 := 0) (i := 0) rfl 0 rfl (by decide +kernel) ?_
    refine s_iconst (pc := 164) (n := 0) (v := (0 : Int32)) (by decide) (by decide +kernel) ?_
    have c5 := kp e3 c1 (by decide)
    refine s_putI (pc := 165) (k := 19) c5 ft_X7_158 (fw_7_19 _ _) rfl rfl (by decide +kernel) ?_
    refine s_nmH (o := g2) rfl (fun g6 e7 => ?_)
    refine s_iconst (pc := 168) (n := 0) (v := (0 : Int32)) (by decide) (by decide +kernel) ?_
    refine s_nmI (fun v8 => ?_)
    refine s_istore_n (pc := 169) (L' := [(3, .int v8), (0, .ref a0), (1, .int a1), (2, .int a2)]) (k0 := 3) (i := 3) rfl (by decide) rfl (by decide +kernel) ?_
    refine S_sub [1, 3, 0] rfl ?_
    exact pX7_hull_l170 FU a0 a2 v8 g6
  · refine s_aload_n (pc := 32) (k0 := 0) (i := 0) rfl 0 rfl (by decide +kernel) ?_
    refine s_iload_n (pc := 33) (k0 := 1) (i := 1) rfl 1 rfl (by decide +kernel) ?_
    refine s_iload_n (pc := 34) (k0 := 3) (i := 3) rfl 3 rfl (by decide +kernel) ?_
    have c9 := kp e3 c1 (by decide)
    refine s_cVi (pc := 35) [.int a1, .int a3] (tX7_xOf a0 a1 a3 g2) c9 cw_X7_174 rfl ⟨⟨Nat.le_of_ble_eq_true rfl, Nat.le_of_ble_eq_true rfl⟩, Nat.le_of_ble_eq_true rfl⟩ rfl (by decide +kernel) (fun w12 g10 e11 => ?_)
    refine s_istore (pc := 38) (L' := [(4, .int w12), (0, .ref a0), (1, .int a1), (2, .int a2), (3, .int a3)]) (i := 4) (by decide) rfl (by decide +kernel) ?_
    refine s_aload_n (pc := 40) (k0 := 0) (i := 0) rfl 1 rfl (by decide +kernel) ?_
    refine s_iload_n (pc := 41) (k0 := 1) (i := 1) rfl 2 rfl (by decide +kernel) ?_
    refine s_iload_n (pc := 42) (k0 := 3) (i := 3) rfl 4 rfl (by decide +kernel) ?_
    have c13 := kp e11 c9 (by decide)
    refine s_cVi (pc := 43) [.int a1, .int a3] (tX7_yOf a0 a1 a3 g10) c13 cw_X7_178 rfl ⟨⟨Nat.le_of_ble_eq_true rfl, Nat.le_of_ble_eq_true rfl⟩, Nat.le_of_ble_eq_true rfl⟩ rfl (by decide +kernel) (fun w16 g14 e15 => ?_)
    refine s_istore (pc := 46) (L' := [(5, .int w16), (4, .int w12), (0, .ref a0), (1, .int a1), (2, .int a2), (3, .int a3)]) (i := 5) (by decide) rfl (by decide +kernel) ?_
    refine s_iload_n (pc := 48) (k0 := 2) (i := 2) rfl 4 rfl (by decide +kernel) ?_
    refine s_if_le (pc := 49) (off := 33) 82 (by decide +kernel) (by decide) (fun _ => ?_) (fun _ => ?_)
    · refine S_sub [2, 3, 4, 5, 1, 0] rfl ?_
      exact pX7_hull_b82 hr23 a0 a1 a2 a3 w12 w16 g14
    · refine s_aload_n (pc := 52) (k0 := 0) (i := 0) rfl 2 rfl (by decide +kernel) ?_
      have c17 := kp e15 c13 (by decide)
      refine s_getR (pc := 53) (k := 33) c17 ft_X7_84 rfl (by decide +kernel) ?_
      refine s_iload_n (pc := 56) (k0 := 2) (i := 2) rfl 4 rfl (by decide +kernel) ?_
      refine s_iconst (pc := 57) (n := 1) (v := (1 : Int32)) (by decide) (by decide +kernel) ?_
      refine s_isub (pc := 58) (by decide +kernel) ?_
      refine S_gd (fun c18 => ?_)
      refine S_gd (fun c19 => ?_)
      refine s_iald (pc := 59) c18 c19 (by decide +kernel) ?_
      refine s_iload (pc := 60) (i := 4) 1 rfl (by decide +kernel) ?_
      refine s_icmp_ne (pc := 62) (off := 20) 82 (by decide +kernel) (by decide) (fun _ => ?_) (fun _ => ?_)
      · refine s_aload_n (pc := 65) (k0 := 0) (i := 0) rfl 2 rfl (by decide +kernel) ?_
        refine s_getR (pc := 66) (k := 34) c17 ft_X7_87 rfl (by decide +kernel) ?_
        refine s_iload_n (pc := 69) (k0 := 2) (i := 2) rfl 4 rfl (by decide +kernel) ?_
        refine s_iconst (pc := 70) (n := 1) (v := (1 : Int32)) (by decide) (by decide +kernel) ?_
        refine s_isub (pc := 71) (by decide +kernel) ?_
        refine S_gd (fun c20 => ?_)
        refine S_gd (fun c21 => ?_)
        refine s_iald (pc := 72) c20 c21 (by decide +kernel) ?_
        refine s_iload (pc := 73) (i := 5) 0 rfl (by decide +kernel) ?_
        refine s_icmp_gt (pc := 75) (off := 7) 82 (by decide +kernel) (by decide) (fun _ => ?_) (fun _ => ?_)
        · refine S_sub [2, 3, 4, 5, 1, 0] rfl ?_
          exact pX7_hull_b82 hr23 a0 a1 a2 a3 w12 w16 g14
        · refine s_iconst (pc := 78) (n := 1) (v := (1 : Int32)) (by decide) (by decide +kernel) ?_
          refine s_goto (pc := 79) (off := 4) 83 (by decide +kernel) (by decide) ?_
          refine S_sub [2, 3, 4, 5, 1, 0] rfl ?_
          exact pX7_hull_b83 hr23 (1 : Int32) a0 a1 a2 a3 w12 w16 g14
      · refine S_sub [2, 3, 4, 5, 1, 0] rfl ?_
        exact pX7_hull_b82 hr23 a0 a1 a2 a3 w12 w16 g14
theorem pX7_hull_l23 {h0 : xH}   : ∀ (k : Nat)  (a0 : Nat) (a1 : Int32) (a2 : Int32) (a3 : Int32) (h : xH), S emI kX7_hull h0 23 [(0, .ref a0), (1, .int a1), (2, .int a2), (3, .int a3)] [] h (fX7_hull_l23  k  a0 a1 a2 a3 h) := by
  intro k
  induction k with
  | zero => intros; exact S_none
  | succ k ih => intro  a0 a1 a2 a3 h; exact pX7_hull_b23 ih  a0 a1 a2 a3 h
theorem pX7_hull_e    (a0 : Nat) (a1 : Int32) (h : xH) : S emI kX7_hull h 0 [(0, .ref a0), (1, .int a1)] [] h (fX7_hull  a0 a1 h) := by
  unfold fX7_hull
  refine s_aload_n (pc := 0) (k0 := 0) (i := 0) rfl 0 rfl (by decide +kernel) ?_
  refine s_iconst (pc := 1) (n := 0) (v := (0 : Int32)) (by decide) (by decide +kernel) ?_
  refine S_gd (fun c1 => ?_)
  refine s_putI (pc := 2) (k := 0) c1 ft_X7_107 (fw_7_0 _ _) rfl rfl (by decide +kernel) ?_
  refine s_nmH (o := h) rfl (fun g2 e3 => ?_)
  refine s_iload_n (pc := 5) (k0 := 1) (i := 1) rfl 1 rfl (by decide +kernel) ?_
  refine s_cSi (pc := 6) [.int a1] (tX7_isStore a1 g2) cw_X7_247 rfl ⟨⟨Nat.le_of_ble_eq_true rfl, Nat.le_of_ble_eq_true rfl⟩, Nat.le_of_ble_eq_true rfl⟩ rfl (by decide +kernel) (fun w6 g4 e5 => ?_)
  refine s_if_ne (pc := 9) (off := 10) 19 (by decide +kernel) (by decide) (fun _ => ?_) (fun _ => ?_)
  · refine s_aload_n (pc := 12) (k0 := 0) (i := 0) rfl 0 rfl (by decide +kernel) ?_
    refine s_bipush (pc := 13) (n := -2) (v := (-2 : Int32)) (by decide) (by decide +kernel) ?_
    have c9 := kp (Le.tr e3 e5) c1 (by decide)
    refine s_cVi (pc := 15) [.int (-2 : Int32)] (tX7_refuse a0 (-2 : Int32) g4) c9 cw_X7_138 rfl ⟨⟨Nat.le_of_ble_eq_true rfl, Nat.le_of_ble_eq_true rfl⟩, Nat.le_of_ble_eq_true rfl⟩ rfl (by decide +kernel) (fun w12 g10 e11 => ?_)
    exact s_iret (pc := 18) rfl (by decide +kernel)
  · refine s_iconst (pc := 19) (n := 0) (v := (0 : Int32)) (by decide) (by decide +kernel) ?_
    refine s_nmI (fun v7 => ?_)
    refine s_istore_n (pc := 20) (L' := [(2, .int v7), (0, .ref a0), (1, .int a1)]) (k0 := 2) (i := 2) rfl (by decide) rfl (by decide +kernel) ?_
    refine s_iconst (pc := 21) (n := 0) (v := (0 : Int32)) (by decide) (by decide +kernel) ?_
    refine s_nmI (fun v8 => ?_)
    refine s_istore_n (pc := 22) (L' := [(3, .int v8), (2, .int v7), (0, .ref a0), (1, .int a1)]) (k0 := 3) (i := 3) rfl (by decide) rfl (by decide +kernel) ?_
    refine S_sub [2, 3, 1, 0] rfl ?_
    exact pX7_hull_l23 FU a0 a1 v7 v8 g4
theorem tX7_hull (a0 : Nat) (a1 : Int32) (h : xH) : Ct yX7_hull kX7_hull emI [.ref a0, .int a1] h (fX7_hull a0 a1 h) := Ct_of (by decide +kernel) rfl rfl rfl (Nat.le_of_ble_eq_true rfl) rfl (pX7_hull_e a0 a1 h)
def fX7_cut_b26   (a0 : Nat) (h : xH) : Option (Int32 × xH) :=
  if kc h a0 = 7 then
  bd (fX7_refuse a0 (-1 : Int32) h) (fun w4 g2 =>
  some (w4, g2))
  else none
def fX7_cut_b156 (r65 : Nat → Int32 → Int32 → Int32 → Int32 → xH → Option (Int32 × xH))  (a0 : Nat) (a2 : Int32) (a3 : Int32) (a4 : Int32) (a5 : Int32) (h : xH) : Option (Int32 × xH) :=
  lt (a5 + (1 : Int32)) (fun v1 =>
  r65 a0 a2 a3 a4 v1 h)
def fX7_cut_b118 (r65 : Nat → Int32 → Int32 → Int32 → Int32 → xH → Option (Int32 × xH)) (s0 : Int32) (a0 : Nat) (a2 : Int32) (a3 : Int32) (a4 : Int32) (a5 : Int32) (a6 : Int32) (h : xH) : Option (Int32 × xH) :=
  if s0 < a6 then (
  fX7_cut_b156 r65 a0 a2 a3 a4 a5 h)
  else (
  if kc h a0 = 7 then
  if kc h (hR h a0 22) = 9 then
  if ix a5 (kl h (hR h a0 22)) then
  if kc h (hR h a0 23) = 9 then
  if ix a5 (kl h (hR h a0 23)) then
  if kc h (hR h a0 24) = 9 then
  if ix a5 (kl h (hR h a0 24)) then
  bd (fX7_line a0 a6 s0 (hJ h (hR h a0 22) a5.toNatClampNeg) (hJ h (hR h a0 23) a5.toNatClampNeg) (hJ h (hR h a0 24) a5.toNatClampNeg) h) (fun _ g8 =>
  fX7_cut_b156 r65 a0 a2 a3 a4 a5 g8)
  else none
  else none
  else none
  else none
  else none
  else none
  else none)
def fX7_cut_b94 (r65 : Nat → Int32 → Int32 → Int32 → Int32 → xH → Option (Int32 × xH)) (s0 : Int32) (a0 : Nat) (a2 : Int32) (a3 : Int32) (a4 : Int32) (a5 : Int32) (h : xH) : Option (Int32 × xH) :=
  if kc h a0 = 7 then
  if kc h (hR h a0 21) = 8 then
  if ix a5 (kl h (hR h a0 21)) then
  if a3 ≤ (hI h (hR h a0 21) a5.toNatClampNeg) then (
  fX7_cut_b118 r65 a3 a0 a2 a3 a4 a5 s0 h)
  else (
  fX7_cut_b118 r65 (hI h (hR h a0 21) a5.toNatClampNeg) a0 a2 a3 a4 a5 s0 h)
  else none
  else none
  else none
def fX7_cut_b65 (r65 : Nat → Int32 → Int32 → Int32 → Int32 → xH → Option (Int32 × xH))  (a0 : Nat) (a2 : Int32) (a3 : Int32) (a4 : Int32) (a5 : Int32) (h : xH) : Option (Int32 × xH) :=
  if a4 ≤ a5 then (
  if kc h a0 = 7 then
  bd (fX7_forget a0 a4 h) (fun _ g2 =>
  bd (fX7_onto a0 (8 : Int32) g2) (fun w7 g5 =>
  some (w7, g5)))
  else none)
  else (
  if kc h a0 = 7 then
  if kc h (hR h a0 20) = 8 then
  if ix a5 (kl h (hR h a0 20)) then
  if (hI h (hR h a0 20) a5.toNatClampNeg) ≤ a2 then (
  fX7_cut_b94 r65 a2 a0 a2 a3 a4 a5 h)
  else (
  fX7_cut_b94 r65 (hI h (hR h a0 20) a5.toNatClampNeg) a0 a2 a3 a4 a5 h)
  else none
  else none
  else none)
def fX7_cut_l65  : Nat → Nat → Int32 → Int32 → Int32 → Int32 → xH → Option (Int32 × xH)
  | 0 => fun _ _ _ _ _ _ => none
  | k + 1 => fX7_cut_b65 (fX7_cut_l65  k)
def fX7_cut   (a0 : Nat) (a1 : Int32) (a2 : Int32) (a3 : Int32) (h : xH) : Option (Int32 × xH) :=
  if kc h a0 = 7 then
  lt (sI h a0 0 (0 : Int32)) (fun g2 =>
  bd (fX7_isPlace a2.toInt64 g2) (fun w6 g4 =>
  if w6 = 0 then (
  fX7_cut_b26 a0 g4)
  else (
  bd (fX7_isPlace a3.toInt64 g4) (fun w9 g7 =>
  if w9 = 0 then (
  fX7_cut_b26 a0 g7)
  else (
  if a2 ≤ a3 then (
  bd (fX7_isStore a1 g7) (fun w12 g10 =>
  if w12 = 0 then (
  bd (fX7_refuse a0 (-2 : Int32) g10) (fun w25 g23 =>
  some (w25, g23)))
  else (
  lt (sI g10 a0 19 (0 : Int32)) (fun g14 =>
  bd (fX7_linesOf a0 a1 g14) (fun _ g17 =>
  lt (hI g17 a0 19) (fun v20 =>
  lt (0 : Int32) (fun v21 =>
  fX7_cut_l65 FU a0 a2 a3 v20 v21 g17)))))))
  else (
  fX7_cut_b26 a0 g7))))))
  else none
theorem pX7_cut_b26 {h0 : xH}    (a0 : Nat) (h : xH) : S emI kX7_cut h0 26 [(0, .ref a0)] [] h (fX7_cut_b26  a0 h) := by
  unfold fX7_cut_b26
  refine s_aload_n (pc := 26) (k0 := 0) (i := 0) rfl 0 rfl (by decide +kernel) ?_
  refine s_iconst (pc := 27) (n := -1) (v := (-1 : Int32)) (by decide) (by decide +kernel) ?_
  refine S_gd (fun c1 => ?_)
  refine s_cVi (pc := 28) [.int (-1 : Int32)] (tX7_refuse a0 (-1 : Int32) h) c1 cw_X7_138 rfl ⟨⟨Nat.le_of_ble_eq_true rfl, Nat.le_of_ble_eq_true rfl⟩, Nat.le_of_ble_eq_true rfl⟩ rfl (by decide +kernel) (fun w4 g2 e3 => ?_)
  exact s_iret (pc := 31) rfl (by decide +kernel)
theorem pX7_cut_b156 {h0 : xH} {r65 : Nat → Int32 → Int32 → Int32 → Int32 → xH → Option (Int32 × xH)} (hr65 : ∀  (a0 : Nat) (a2 : Int32) (a3 : Int32) (a4 : Int32) (a5 : Int32) (g : xH), S emI kX7_cut h0 65 [(0, .ref a0), (2, .int a2), (3, .int a3), (4, .int a4), (5, .int a5)] [] g (r65  a0 a2 a3 a4 a5 g))  (a0 : Nat) (a2 : Int32) (a3 : Int32) (a4 : Int32) (a5 : Int32) (h : xH) : S emI kX7_cut h0 156 [(0, .ref a0), (2, .int a2), (3, .int a3), (4, .int a4), (5, .int a5)] [] h (fX7_cut_b156 r65 a0 a2 a3 a4 a5 h) := by
  unfold fX7_cut_b156
  refine s_iinc (pc := 156) (L' := [(5, .int (a5 + (1 : Int32))), (0, .ref a0), (2, .int a2), (3, .int a3), (4, .int a4)]) (i := 5) (n := 1) 4 rfl rfl (by decide) rfl (by decide +kernel) ?_
  refine s_nmI0 (e := a5 + (1 : Int32)) (L := fun v1 => [(5, .int v1), (0, .ref a0), (2, .int a2), (3, .int a3), (4, .int a4)]) (fun v1 => ?_)
  refine s_goto (pc := 159) (off := -94) 65 (by decide +kernel) (by decide) ?_
  refine S_sub [1, 2, 3, 4, 0] rfl ?_
  exact hr65 a0 a2 a3 a4 v1 h
theorem pX7_cut_b118 {h0 : xH} {r65 : Nat → Int32 → Int32 → Int32 → Int32 → xH → Option (Int32 × xH)} (hr65 : ∀  (a0 : Nat) (a2 : Int32) (a3 : Int32) (a4 : Int32) (a5 : Int32) (g : xH), S emI kX7_cut h0 65 [(0, .ref a0), (2, .int a2), (3, .int a3), (4, .int a4), (5, .int a5)] [] g (r65  a0 a2 a3 a4 a5 g)) (s0 : Int32) (a0 : Nat) (a2 : Int32) (a3 : Int32) (a4 : Int32) (a5 : Int32) (a6 : Int32) (h : xH) : S emI kX7_cut h0 118 [(0, .ref a0), (2, .int a2), (3, .int a3), (4, .int a4), (5, .int a5), (6, .int a6)] [.int s0] h (fX7_cut_b118 r65 s0 a0 a2 a3 a4 a5 a6 h) := by
  unfold fX7_cut_b118
  refine s_istore (pc := 118) (L' := [(7, .int s0), (0, .ref a0), (2, .int a2), (3, .int a3), (4, .int a4), (5, .int a5), (6, .int a6)]) (i := 7) (by decide) rfl (by decide +kernel) ?_
  refine s_iload (pc := 120) (i := 6) 6 rfl (by decide +kernel) ?_
  refine s_iload (pc := 122) (i := 7) 0 rfl (by decide +kernel) ?_
  refine s_icmp_gt (pc := 124) (off := 32) 156 (by decide +kernel) (by decide) (fun _ => ?_) (fun _ => ?_)
  · refine S_sub [1, 2, 3, 4, 5] rfl ?_
    exact pX7_cut_b156 hr65 a0 a2 a3 a4 a5 h
  · refine s_aload_n (pc := 127) (k0 := 0) (i := 0) rfl 1 rfl (by decide +kernel) ?_
    refine s_iload (pc := 128) (i := 6) 6 rfl (by decide +kernel) ?_
    refine s_iload (pc := 130) (i := 7) 0 rfl (by decide +kernel) ?_
    refine s_aload_n (pc := 132) (k0 := 0) (i := 0) rfl 1 rfl (by decide +kernel) ?_
    refine S_gd (fun c1 => ?_)
    refine s_getR (pc := 133) (k := 22) c1 ft_X7_63 rfl (by decide +kernel) ?_
    refine s_iload (pc := 136) (i := 5) 5 rfl (by decide +kernel) ?_
    refine S_gd (fun c2 => ?_)
    refine S_gd (fun c3 => ?_)
    refine s_lald (pc := 138) c2 c3 (by decide +kernel) ?_
    refine s_aload_n (pc := 139) (k0 := 0) (i := 0) rfl 1 rfl (by decide +kernel) ?_
    refine s_getR (pc := 140) (k := 23) c1 ft_X7_66 rfl (by decide +kernel) ?_
    refine s_iload (pc := 143) (i := 5) 5 rfl (by decide +kernel) ?_
    refine S_gd (fun c4 => ?_)
    refine S_gd (fun c5 => ?_)
    refine s_lald (pc := 145) c4 c5 (by decide +kernel) ?_
    refine s_aload_n (pc := 146) (k0 := 0) (i := 0) rfl 1 rfl (by decide +kernel) ?_
    refine s_getR (pc := 147) (k := 24) c1 ft_X7_69 rfl (by decide +kernel) ?_
    refine s_iload (pc := 150) (i := 5) 5 rfl (by decide +kernel) ?_
    refine S_gd (fun c6 => ?_)
    refine S_gd (fun c7 => ?_)
    refine s_lald (pc := 152) c6 c7 (by decide +kernel) ?_
    refine s_cVv (pc := 153) [.int a6, .int s0, .long (hJ h (hR h a0 22) a5.toNatClampNeg), .long (hJ h (hR h a0 23) a5.toNatClampNeg), .long (hJ h (hR h a0 24) a5.toNatClampNeg)] (tX7_line a0 a6 s0 (hJ h (hR h a0 22) a5.toNatClampNeg) (hJ h (hR h a0 23) a5.toNatClampNeg) (hJ h (hR h a0 24) a5.toNatClampNeg) h) c1 cw_X7_161 rfl ⟨⟨Nat.le_of_ble_eq_true rfl, Nat.le_of_ble_eq_true rfl⟩, Nat.le_of_ble_eq_true rfl⟩ rfl (by decide +kernel) (fun _ g8 e9 => ?_)
    refine S_sub [1, 2, 3, 4, 5] rfl ?_
    exact pX7_cut_b156 hr65 a0 a2 a3 a4 a5 g8
theorem pX7_cut_b94 {h0 : xH} {r65 : Nat → Int32 → Int32 → Int32 → Int32 → xH → Option (Int32 × xH)} (hr65 : ∀  (a0 : Nat) (a2 : Int32) (a3 : Int32) (a4 : Int32) (a5 : Int32) (g : xH), S emI kX7_cut h0 65 [(0, .ref a0), (2, .int a2), (3, .int a3), (4, .int a4), (5, .int a5)] [] g (r65  a0 a2 a3 a4 a5 g)) (s0 : Int32) (a0 : Nat) (a2 : Int32) (a3 : Int32) (a4 : Int32) (a5 : Int32) (h : xH) : S emI kX7_cut h0 94 [(0, .ref a0), (2, .int a2), (3, .int a3), (4, .int a4), (5, .int a5)] [.int s0] h (fX7_cut_b94 r65 s0 a0 a2 a3 a4 a5 h) := by
  unfold fX7_cut_b94
  refine s_istore (pc := 94) (L' := [(6, .int s0), (0, .ref a0), (2, .int a2), (3, .int a3), (4, .int a4), (5, .int a5)]) (i := 6) (by decide) rfl (by decide +kernel) ?_
  refine s_aload_n (pc := 96) (k0 := 0) (i := 0) rfl 1 rfl (by decide +kernel) ?_
  refine S_gd (fun c1 => ?_)
  refine s_getR (pc := 97) (k := 21) c1 ft_X7_60 rfl (by decide +kernel) ?_
  refine s_iload (pc := 100) (i := 5) 5 rfl (by decide +kernel) ?_
  refine S_gd (fun c2 => ?_)
  refine S_gd (fun c3 => ?_)
  refine s_iald (pc := 102) c2 c3 (by decide +kernel) ?_
  refine s_iload_n (pc := 103) (k0 := 3) (i := 3) rfl 3 rfl (by decide +kernel) ?_
  refine s_icmp_ge (pc := 104) (off := 13) 117 (by decide +kernel) (by decide) (fun _ => ?_) (fun _ => ?_)
  · refine s_iload_n (pc := 117) (k0 := 3) (i := 3) rfl 3 rfl (by decide +kernel) ?_
    refine S_sub [1, 2, 3, 4, 5, 0] rfl ?_
    exact pX7_cut_b118 hr65 a3 a0 a2 a3 a4 a5 s0 h
  · refine s_aload_n (pc := 107) (k0 := 0) (i := 0) rfl 1 rfl (by decide +kernel) ?_
    refine s_getR (pc := 108) (k := 21) c1 ft_X7_60 rfl (by decide +kernel) ?_
    refine s_iload (pc := 111) (i := 5) 5 rfl (by decide +kernel) ?_
    refine s_iald (pc := 113) c2 c3 (by decide +kernel) ?_
    refine s_goto (pc := 114) (off := 4) 118 (by decide +kernel) (by decide) ?_
    refine S_sub [1, 2, 3, 4, 5, 0] rfl ?_
    exact pX7_cut_b118 hr65 (hI h (hR h a0 21) a5.toNatClampNeg) a0 a2 a3 a4 a5 s0 h
theorem pX7_cut_b65 {h0 : xH} {r65 : Nat → Int32 → Int32 → Int32 → Int32 → xH → Option (Int32 × xH)} (hr65 : ∀  (a0 : Nat) (a2 : Int32) (a3 : Int32) (a4 : Int32) (a5 : Int32) (g : xH), S emI kX7_cut h0 65 [(0, .ref a0), (2, .int a2), (3, .int a3), (4, .int a4), (5, .int a5)] [] g (r65  a0 a2 a3 a4 a5 g))  (a0 : Nat) (a2 : Int32) (a3 : Int32) (a4 : Int32) (a5 : Int32) (h : xH) : S emI kX7_cut h0 65 [(0, .ref a0), (2, .int a2), (3, .int a3), (4, .int a4), (5, .int a5)] [] h (fX7_cut_b65 r65 a0 a2 a3 a4 a5 h) := by
  unfold fX7_cut_b65
  refine s_iload (pc := 65) (i := 5) 4 rfl (by decide +kernel) ?_
  refine s_iload (pc := 67) (i := 4) 3 rfl (by decide +kernel) ?_
  refine s_icmp_ge (pc := 69) (off := 93) 162 (by decide +kernel) (by decide) (fun _ => ?_) (fun _ => ?_)
  · refine s_aload_n (pc := 162) (k0 := 0) (i := 0) rfl 0 rfl (by decide +kernel) ?_
    refine s_iload (pc := 163) (i := 4) 3 rfl (by decide +kernel) ?_
    refine S_gd (fun c1 => ?_)
    refine s_cVv (pc := 165) [.int a4] (tX7_forget a0 a4 h) c1 cw_X7_254 rfl ⟨⟨Nat.le_of_ble_eq_true rfl, Nat.le_of_ble_eq_true rfl⟩, Nat.le_of_ble_eq_true rfl⟩ rfl (by decide +kernel) (fun _ g2 e3 => ?_)
    refine s_aload_n (pc := 168) (k0 := 0) (i := 0) rfl 0 rfl (by decide +kernel) ?_
    refine s_bipush (pc := 169) (n := 8) (v := (8 : Int32)) (by decide) (by decide +kernel) ?_
    have c4 := kp e3 c1 (by decide)
    refine s_cVi (pc := 171) [.int (8 : Int32)] (tX7_onto a0 (8 : Int32) g2) c4 cw_X7_257 rfl ⟨⟨Nat.le_of_ble_eq_true rfl, Nat.le_of_ble_eq_true rfl⟩, Nat.le_of_ble_eq_true rfl⟩ rfl (by decide +kernel) (fun w7 g5 e6 => ?_)
    exact s_iret (pc := 174) rfl (by decide +kernel)
  · refine s_aload_n (pc := 72) (k0 := 0) (i := 0) rfl 0 rfl (by decide +kernel) ?_
    refine S_gd (fun c8 => ?_)
    refine s_getR (pc := 73) (k := 20) c8 ft_X7_57 rfl (by decide +kernel) ?_
    refine s_iload (pc := 76) (i := 5) 4 rfl (by decide +kernel) ?_
    refine S_gd (fun c9 => ?_)
    refine S_gd (fun c10 => ?_)
    refine s_iald (pc := 78) c9 c10 (by decide +kernel) ?_
    refine s_iload_n (pc := 79) (k0 := 2) (i := 2) rfl 1 rfl (by decide +kernel) ?_
    refine s_icmp_le (pc := 80) (off := 13) 93 (by decide +kernel) (by decide) (fun _ => ?_) (fun _ => ?_)
    · refine s_iload_n (pc := 93) (k0 := 2) (i := 2) rfl 1 rfl (by decide +kernel) ?_
      exact pX7_cut_b94 hr65 a2 a0 a2 a3 a4 a5 h
    · refine s_aload_n (pc := 83) (k0 := 0) (i := 0) rfl 0 rfl (by decide +kernel) ?_
      refine s_getR (pc := 84) (k := 20) c8 ft_X7_57 rfl (by decide +kernel) ?_
      refine s_iload (pc := 87) (i := 5) 4 rfl (by decide +kernel) ?_
      refine s_iald (pc := 89) c9 c10 (by decide +kernel) ?_
      refine s_goto (pc := 90) (off := 4) 94 (by decide +kernel) (by decide) ?_
      exact pX7_cut_b94 hr65 (hI h (hR h a0 20) a5.toNatClampNeg) a0 a2 a3 a4 a5 h
theorem pX7_cut_l65 {h0 : xH}   : ∀ (k : Nat)  (a0 : Nat) (a2 : Int32) (a3 : Int32) (a4 : Int32) (a5 : Int32) (h : xH), S emI kX7_cut h0 65 [(0, .ref a0), (2, .int a2), (3, .int a3), (4, .int a4), (5, .int a5)] [] h (fX7_cut_l65  k  a0 a2 a3 a4 a5 h) := by
  intro k
  induction k with
  | zero => intros; exact S_none
  | succ k ih => intro  a0 a2 a3 a4 a5 h; exact pX7_cut_b65 ih  a0 a2 a3 a4 a5 h
theorem pX7_cut_e    (a0 : Nat) (a1 : Int32) (a2 : Int32) (a3 : Int32) (h : xH) : S emI kX7_cut h 0 [(0, .ref a0), (1, .int a1), (2, .int a2), (3, .int a3)] [] h (fX7_cut  a0 a1 a2 a3 h) := by
  unfold fX7_cut
  refine s_aload_n (pc := 0) (k0 := 0) (i := 0) rfl 0 rfl (by decide +kernel) ?_
  refine s_iconst (pc := 1) (n := 0) (v := (0 : Int32)) (by decide) (by decide +kernel) ?_
  refine S_gd (fun c1 => ?_)
  refine s_putI (pc := 2) (k := 0) c1 ft_X7_107 (fw_7_0 _ _) rfl rfl (by decide +kernel) ?_
  refine s_nmH (o := h) rfl (fun g2 e3 => ?_)
  refine s_iload_n (pc := 5) (k0 := 2) (i := 2) rfl 2 rfl (by decide +kernel) ?_
  refine s_i2l (pc := 6) (by decide +kernel) ?_
  refine s_cSi (pc := 7) [.long a2.toInt64] (tX7_isPlace a2.toInt64 g2) cw_X7_270 rfl ⟨⟨Nat.le_of_ble_eq_true rfl, Nat.le_of_ble_eq_true rfl⟩, Nat.le_of_ble_eq_true rfl⟩ rfl (by decide +kernel) (fun w6 g4 e5 => ?_)
  refine s_if_eq (pc := 10) (off := 16) 26 (by decide +kernel) (by decide) (fun _ => ?_) (fun _ => ?_)
  · refine S_sub [0] rfl ?_
    exact pX7_cut_b26 a0 g4
  · refine s_iload_n (pc := 13) (k0 := 3) (i := 3) rfl 3 rfl (by decide +kernel) ?_
    refine s_i2l (pc := 14) (by decide +kernel) ?_
    refine s_cSi (pc := 15) [.long a3.toInt64] (tX7_isPlace a3.toInt64 g4) cw_X7_270 rfl ⟨⟨Nat.le_of_ble_eq_true rfl, Nat.le_of_ble_eq_true rfl⟩, Nat.le_of_ble_eq_true rfl⟩ rfl (by decide +kernel) (fun w9 g7 e8 => ?_)
    refine s_if_eq (pc := 18) (off := 8) 26 (by decide +kernel) (by decide) (fun _ => ?_) (fun _ => ?_)
    · refine S_sub [0] rfl ?_
      exact pX7_cut_b26 a0 g7
    · refine s_iload_n (pc := 21) (k0 := 2) (i := 2) rfl 2 rfl (by decide +kernel) ?_
      refine s_iload_n (pc := 22) (k0 := 3) (i := 3) rfl 3 rfl (by decide +kernel) ?_
      refine s_icmp_le (pc := 23) (off := 9) 32 (by decide +kernel) (by decide) (fun _ => ?_) (fun _ => ?_)
      · refine s_iload_n (pc := 32) (k0 := 1) (i := 1) rfl 1 rfl (by decide +kernel) ?_
        refine s_cSi (pc := 33) [.int a1] (tX7_isStore a1 g7) cw_X7_247 rfl ⟨⟨Nat.le_of_ble_eq_true rfl, Nat.le_of_ble_eq_true rfl⟩, Nat.le_of_ble_eq_true rfl⟩ rfl (by decide +kernel) (fun w12 g10 e11 => ?_)
        refine s_if_ne (pc := 36) (off := 10) 46 (by decide +kernel) (by decide) (fun _ => ?_) (fun _ => ?_)
        · refine s_aload_n (pc := 39) (k0 := 0) (i := 0) rfl 0 rfl (by decide +kernel) ?_
          refine s_bipush (pc := 40) (n := -2) (v := (-2 : Int32)) (by decide) (by decide +kernel) ?_
          have c22 := kp (Le.tr e3 (Le.tr e5 (Le.tr e8 e11))) c1 (by decide)
          refine s_cVi (pc := 42) [.int (-2 : Int32)] (tX7_refuse a0 (-2 : Int32) g10) c22 cw_X7_138 rfl ⟨⟨Nat.le_of_ble_eq_true rfl, Nat.le_of_ble_eq_true rfl⟩, Nat.le_of_ble_eq_true rfl⟩ rfl (by decide +kernel) (fun w25 g23 e24 => ?_)
          exact s_iret (pc := 45) rfl (by decide +kernel)
        · refine s_aload_n (pc := 46) (k0 := 0) (i := 0) rfl 0 rfl (by decide +kernel) ?_
          refine s_iconst (pc := 47) (n := 0) (v := (0 : Int32)) (by decide) (by decide +kernel) ?_
          have c13 := kp (Le.tr e3 (Le.tr e5 (Le.tr e8 e11))) c1 (by decide)
          refine s_putI (pc := 48) (k := 19) c13 ft_X7_158 (fw_7_19 _ _) rfl rfl (by decide +kernel) ?_
          refine s_nmH (o := g10) rfl (fun g14 e15 => ?_)
          refine s_aload_n (pc := 51) (k0 := 0) (i := 0) rfl 0 rfl (by decide +kernel) ?_
          refine s_iload_n (pc := 52) (k0 := 1) (i := 1) rfl 1 rfl (by decide +kernel) ?_
          have c16 := kp e15 c13 (by decide)
          refine s_cVv (pc := 53) [.int a1] (tX7_linesOf a0 a1 g14) c16 cw_X7_251 rfl ⟨⟨Nat.le_of_ble_eq_true rfl, Nat.le_of_ble_eq_true rfl⟩, Nat.le_of_ble_eq_true rfl⟩ rfl (by decide +kernel) (fun _ g17 e18 => ?_)
          refine s_aload_n (pc := 56) (k0 := 0) (i := 0) rfl 0 rfl (by decide +kernel) ?_
          have c19 := kp e18 c16 (by decide)
          refine s_getI (pc := 57) (k := 19) c19 ft_X7_158 rfl (by decide +kernel) ?_
          refine s_nmI (fun v20 => ?_)
          refine s_istore (pc := 60) (L' := [(4, .int v20), (0, .ref a0), (1, .int a1), (2, .int a2), (3, .int a3)]) (i := 4) (by decide) rfl (by decide +kernel) ?_
          refine s_iconst (pc := 62) (n := 0) (v := (0 : Int32)) (by decide) (by decide +kernel) ?_
          refine s_nmI (fun v21 => ?_)
          refine s_istore (pc := 63) (L' := [(5, .int v21), (4, .int v20), (0, .ref a0), (1, .int a1), (2, .int a2), (3, .int a3)]) (i := 5) (by decide) rfl (by decide +kernel) ?_
          refine S_sub [2, 4, 5, 1, 0] rfl ?_
          exact pX7_cut_l65 FU a0 a2 a3 v20 v21 g17
      · refine S_sub [0] rfl ?_
        exact pX7_cut_b26 a0 g7
theorem tX7_cut (a0 : Nat) (a1 : Int32) (a2 : Int32) (a3 : Int32) (h : xH) : Ct yX7_cut kX7_cut emI [.ref a0, .int a1, .int a2, .int a3] h (fX7_cut a0 a1 a2 a3 h) := Ct_of (by decide +kernel) rfl rfl rfl (Nat.le_of_ble_eq_true rfl) rfl (pX7_cut_e a0 a1 a2 a3 h)
def fX7_move_b21   (a0 : Nat) (h : xH) : Option (Int32 × xH) :=
  if kc h a0 = 7 then
  bd (fX7_refuse a0 (-1 : Int32) h) (fun w4 g2 =>
  some (w4, g2))
  else none
def fX7_move_b55 (r55 : Nat → Int32 → Int32 → Int32 → xH → Option (Int32 × xH))  (a0 : Nat) (a2 : Int32) (a3 : Int32) (a4 : Int32) (h : xH) : Option (Int32 × xH) :=
  if kc h a0 = 7 then
  if (hI h a0 26) ≤ a4 then (
  bd (fX7_onto a0 (9 : Int32) h) (fun w4 g2 =>
  some (w4, g2)))
  else (
  lt ((4 : Int32) * a4) (fun v5 =>
  if kc h (hR h a0 25) = 8 then
  if ix v5 (kl h (hR h a0 25)) then
  if ix (v5 + (1 : Int32)) (kl h (hR h a0 25)) then
  if ix (v5 + (2 : Int32)) (kl h (hR h a0 25)) then
  if ix (v5 + (3 : Int32)) (kl h (hR h a0 25)) then
  bd (fX7_lineBy a0 (((hI h (hR h a0 25) v5.toNatClampNeg) + a2).toInt64) (((hI h (hR h a0 25) (v5 + (1 : Int32)).toNatClampNeg) + a3).toInt64) (((hI h (hR h a0 25) (v5 + (2 : Int32)).toNatClampNeg) + a2).toInt64) (((hI h (hR h a0 25) (v5 + (3 : Int32)).toNatClampNeg) + a3).toInt64) h) (fun _ g11 =>
  lt (a4 + (1 : Int32)) (fun v13 =>
  r55 a0 a2 a3 v13 g11))
  else none
  else none
  else none
  else none
  else none))
  else none
def fX7_move_l55  : Nat → Nat → Int32 → Int32 → Int32 → xH → Option (Int32 × xH)
  | 0 => fun _ _ _ _ _ => none
  | k + 1 => fX7_move_b55 (fX7_move_l55  k)
def fX7_move   (a0 : Nat) (a1 : Int32) (a2 : Int32) (a3 : Int32) (h : xH) : Option (Int32 × xH) :=
  if kc h a0 = 7 then
  lt (sI h a0 0 (0 : Int32)) (fun g2 =>
  bd (fX7_isPlace a2.toInt64 g2) (fun w6 g4 =>
  if w6 = 0 then (
  fX7_move_b21 a0 g4)
  else (
  bd (fX7_isPlace a3.toInt64 g4) (fun w9 g7 =>
  if w9 = 0 then (
  fX7_move_b21 a0 g7)
  else (
  bd (fX7_isStore a1 g7) (fun w12 g10 =>
  if w12 = 0 then (
  bd (fX7_refuse a0 (-2 : Int32) g10) (fun w23 g21 =>
  some (w23, g21)))
  else (
  bd (fX7_laySpans a0 a1 (0 : Int32) g10) (fun _ g14 =>
  lt (sI g14 a0 19 (0 : Int32)) (fun g17 =>
  lt (0 : Int32) (fun v19 =>
  fX7_move_l55 FU a0 a2 a3 v19 g17))))))))))
  else none
theorem pX7_move_b21 {h0 : xH}    (a0 : Nat) (h : xH) : S emI kX7_move h0 21 [(0, .ref a0)] [] h (fX7_move_b21  a0 h) := by
  unfold fX7_move_b21
  refine s_aload_n (pc := 21) (k0 := 0) (i := 0) rfl 0 rfl (by decide +kernel) ?_
  refine s_iconst (pc := 22) (n := -1) (v := (-1 : Int32)) (by decide) (by decide +kernel) ?_
  refine S_gd (fun c1 => ?_)
  refine s_cVi (pc := 23) [.int (-1 : Int32)] (tX7_refuse a0 (-1 : Int32) h) c1 cw_X7_138 rfl ⟨⟨Nat.le_of_ble_eq_true rfl, Nat.le_of_ble_eq_true rfl⟩, Nat.le_of_ble_eq_true rfl⟩ rfl (by decide +kernel) (fun w4 g2 e3 => ?_)
  exact s_iret (pc := 26) rfl (by decide +kernel)
theorem pX7_move_b55 {h0 : xH} {r55 : Nat → Int32 → Int32 → Int32 → xH → Option (Int32 × xH)} (hr55 : ∀  (a0 : Nat) (a2 : Int32) (a3 : Int32) (a4 : Int32) (g : xH), S emI kX7_move h0 55 [(0, .ref a0), (2, .int a2), (3, .int a3), (4, .int a4)] [] g (r55  a0 a2 a3 a4 g))  (a0 : Nat) (a2 : Int32) (a3 : Int32) (a4 : Int32) (h : xH) : S emI kX7_move h0 55 [(0, .ref a0), (2, .int a2), (3, .int a3), (4, .int a4)] [] h (fX7_move_b55 r55 a0 a2 a3 a4 h) := by
  unfold fX7_move_b55
  refine s_iload (pc := 55) (i := 4) 3 rfl (by decide +kernel) ?_
  refine s_aload_n (pc := 57) (k0 := 0) (i := 0) rfl 0 rfl (by decide +kernel) ?_
  refine S_gd (fun c1 => ?_)
  refine s_getI (pc := 58) (k := 26) c1 ft_X7_165 rfl (by decide +kernel) ?_
  refine s_icmp_ge (pc := 61) (off := 65) 126 (by decide +kernel) (by decide) (fun _ => ?_) (fun _ => ?_)
  · refine s_aload_n (pc := 126) (k0 := 0) (i := 0) rfl 0 rfl (by decide +kernel) ?_
    refine s_bipush (pc := 127) (n := 9) (v := (9 : Int32)) (by decide) (by decide +kernel) ?_
    refine s_cVi (pc := 129) [.int (9 : Int32)] (tX7_onto a0 (9 : Int32) h) c1 cw_X7_257 rfl ⟨⟨Nat.le_of_ble_eq_true rfl, Nat.le_of_ble_eq_true rfl⟩, Nat.le_of_ble_eq_true rfl⟩ rfl (by decide +kernel) (fun w4 g2 e3 => ?_)
    exact s_iret (pc := 132) rfl (by decide +kernel)
  · refine s_iconst (pc := 64) (n := 4) (v := (4 : Int32)) (by decide) (by decide +kernel) ?_
    refine s_iload (pc := 65) (i := 4) 3 rfl (by decide +kernel) ?_
    refine s_imul (pc := 67) (by decide +kernel) ?_
    refine s_nmI (fun v5 => ?_)
    refine s_istore (pc := 68) (L' := [(5, .int v5), (0, .ref a0), (2, .int a2), (3, .int a3), (4, .int a4)]) (i := 5) (by decide) rfl (by decide +kernel) ?_
    refine s_aload_n (pc := 70) (k0 := 0) (i := 0) rfl 1 rfl (by decide +kernel) ?_
    refine s_aload_n (pc := 71) (k0 := 0) (i := 0) rfl 1 rfl (by decide +kernel) ?_
    refine s_getR (pc := 72) (k := 25) c1 ft_X7_72 rfl (by decide +kernel) ?_
    refine s_iload (pc := 75) (i := 5) 0 rfl (by decide +kernel) ?_
    refine S_gd (fun c6 => ?_)
    refine S_gd (fun c7 => ?_)
    refine s_iald (pc := 77) c6 c7 (by decide +kernel) ?_
    refine s_iload_n (pc := 78) (k0 := 2) (i := 2) rfl 2 rfl (by decide +kernel) ?_
    refine s_iadd (pc := 79) (by decide +kernel) ?_
    refine s_i2l (pc := 80) (by decide +kernel) ?_
    refine s_aload_n (pc := 81) (k0 := 0) (i := 0) rfl 1 rfl (by decide +kernel) ?_
    refine s_getR (pc := 82) (k := 25) c1 ft_X7_72 rfl (by decide +kernel) ?_
    refine s_iload (pc := 85) (i := 5) 0 rfl (by decide +kernel) ?_
    refine s_iconst (pc := 87) (n := 1) (v := (1 : Int32)) (by decide) (by decide +kernel) ?_
    refine s_iadd (pc := 88) (by decide +kernel) ?_
    refine S_gd (fun c8 => ?_)
    refine s_iald (pc := 89) c6 c8 (by decide +kernel) ?_
    refine s_iload_n (pc := 90) (k0 := 3) (i := 3) rfl 3 rfl (by decide +kernel) ?_
    refine s_iadd (pc := 91) (by decide +kernel) ?_
    refine s_i2l (pc := 92) (by decide +kernel) ?_
    refine s_aload_n (pc := 93) (k0 := 0) (i := 0) rfl 1 rfl (by decide +kernel) ?_
    refine s_getR (pc := 94) (k := 25) c1 ft_X7_72 rfl (by decide +kernel) ?_
    refine s_iload (pc := 97) (i := 5) 0 rfl (by decide +kernel) ?_
    refine s_iconst (pc := 99) (n := 2) (v := (2 : Int32)) (by decide) (by decide +kernel) ?_
    refine s_iadd (pc := 100) (by decide +kernel) ?_
    refine S_gd (fun c9 => ?_)
    refine s_iald (pc := 101) c6 c9 (by decide +kernel) ?_
    refine s_iload_n (pc := 102) (k0 := 2) (i := 2) rfl 2 rfl (by decide +kernel) ?_
    refine s_iadd (pc := 103) (by decide +kernel) ?_
    refine s_i2l (pc := 104) (by decide +kernel) ?_
    refine s_aload_n (pc := 105) (k0 := 0) (i := 0) rfl 1 rfl (by decide +kernel) ?_
    refine s_getR (pc := 106) (k := 25) c1 ft_X7_72 rfl (by decide +kernel) ?_
    refine s_iload (pc := 109) (i := 5) 0 rfl (by decide +kernel) ?_
    refine s_iconst (pc := 111) (n := 3) (v := (3 : Int32)) (by decide) (by decide +kernel) ?_
    refine s_iadd (pc := 112) (by decide +kernel) ?_
    refine S_gd (fun c10 => ?_)
    refine s_iald (pc := 113) c6 c10 (by decide +kernel) ?_
    refine s_iload_n (pc := 114) (k0 := 3) (i := 3) rfl 3 rfl (by decide +kernel) ?_
    refine s_iadd (pc := 115) (by decide +kernel) ?_
    refine s_i2l (pc := 116) (by decide +kernel) ?_
    refine s_cVv (pc := 117) [.long (((hI h (hR h a0 25) v5.toNatClampNeg) + a2).toInt64), .long (((hI h (hR h a0 25) (v5 + (1 : Int32)).toNatClampNeg) + a3).toInt64), .long (((hI h (hR h a0 25) (v5 + (2 : Int32)).toNatClampNeg) + a2).toInt64), .long (((hI h (hR h a0 25) (v5 + (3 : Int32)).toNatClampNeg) + a3).toInt64)] (tX7_lineBy a0 (((hI h (hR h a0 25) v5.toNatClampNeg) + a2).toInt64) (((hI h (hR h a0 25) (v5 + (1 : Int32)).toNatClampNeg) + a3).toInt64) (((hI h (hR h a0 25) (v5 + (2 : Int32)).toNatClampNeg) + a2).toInt64) (((hI h (hR h a0 25) (v5 + (3 : Int32)).toNatClampNeg) + a3).toInt64) h) c1 cw_X7_185 rfl ⟨⟨Nat.le_of_ble_eq_true rfl, Nat.le_of_ble_eq_true rfl⟩, Nat.le_of_ble_eq_true rfl⟩ rfl (by decide +kernel) (fun _ g11 e12 => ?_)
    refine s_iinc (pc := 120) (L' := [(4, .int (a4 + (1 : Int32))), (5, .int v5), (0, .ref a0), (2, .int a2), (3, .int a3)]) (i := 4) (n := 1) 4 rfl rfl (by decide) rfl (by decide +kernel) ?_
    refine s_nmI0 (e := a4 + (1 : Int32)) (L := fun v13 => [(4, .int v13), (5, .int v5), (0, .ref a0), (2, .int a2), (3, .int a3)]) (fun v13 => ?_)
    refine s_goto (pc := 123) (off := -68) 55 (by decide +kernel) (by decide) ?_
    refine S_sub [2, 3, 4, 0] rfl ?_
    exact hr55 a0 a2 a3 v13 g11
theorem pX7_move_l55 {h0 : xH}   : ∀ (k : Nat)  (a0 : Nat) (a2 : Int32) (a3 : Int32) (a4 : Int32) (h : xH), S emI kX7_move h0 55 [(0, .ref a0), (2, .int a2), (3, .int a3), (4, .int a4)] [] h (fX7_move_l55  k  a0 a2 a3 a4 h) := by
  intro k
  induction k with
  | zero => intros; exact S_none
  | succ k ih => intro  a0 a2 a3 a4 h; exact pX7_move_b55 ih  a0 a2 a3 a4 h
theorem pX7_move_e    (a0 : Nat) (a1 : Int32) (a2 : Int32) (a3 : Int32) (h : xH) : S emI kX7_move h 0 [(0, .ref a0), (1, .int a1), (2, .int a2), (3, .int a3)] [] h (fX7_move  a0 a1 a2 a3 h) := by
  unfold fX7_move
  refine s_aload_n (pc := 0) (k0 := 0) (i := 0) rfl 0 rfl (by decide +kernel) ?_
  refine s_iconst (pc := 1) (n := 0) (v := (0 : Int32)) (by decide) (by decide +kernel) ?_
  refine S_gd (fun c1 => ?_)
  refine s_putI (pc := 2) (k := 0) c1 ft_X7_107 (fw_7_0 _ _) rfl rfl (by decide +kernel) ?_
  refine s_nmH (o := h) rfl (fun g2 e3 => ?_)
  refine s_iload_n (pc := 5) (k0 := 2) (i := 2) rfl 2 rfl (by decide +kernel) ?_
  refine s_i2l (pc := 6) (by decide +kernel) ?_
  refine s_cSi (pc := 7) [.long a2.toInt64] (tX7_isPlace a2.toInt64 g2) cw_X7_270 rfl ⟨⟨Nat.le_of_ble_eq_true rfl, Nat.le_of_ble_eq_true rfl⟩, Nat.le_of_ble_eq_true rfl⟩ rfl (by decide +kernel) (fun w6 g4 e5 => ?_)
  refine s_if_eq (pc := 10) (off := 11) 21 (by decide +kernel) (by decide) (fun _ => ?_) (fun _ => ?_)
  · refine S_sub [0] rfl ?_
    exact pX7_move_b21 a0 g4
  · refine s_iload_n (pc := 13) (k0 := 3) (i := 3) rfl 3 rfl (by decide +kernel) ?_
    refine s_i2l (pc := 14) (by decide +kernel) ?_
    refine s_cSi (pc := 15) [.long a3.toInt64] (tX7_isPlace a3.toInt64 g4) cw_X7_270 rfl ⟨⟨Nat.le_of_ble_eq_true rfl, Nat.le_of_ble_eq_true rfl⟩, Nat.le_of_ble_eq_true rfl⟩ rfl (by decide +kernel) (fun w9 g7 e8 => ?_)
    refine s_if_ne (pc := 18) (off := 9) 27 (by decide +kernel) (by decide) (fun _ => ?_) (fun _ => ?_)
    · refine S_sub [0] rfl ?_
      exact pX7_move_b21 a0 g7
    · refine s_iload_n (pc := 27) (k0 := 1) (i := 1) rfl 1 rfl (by decide +kernel) ?_
      refine s_cSi (pc := 28) [.int a1] (tX7_isStore a1 g7) cw_X7_247 rfl ⟨⟨Nat.le_of_ble_eq_true rfl, Nat.le_of_ble_eq_true rfl⟩, Nat.le_of_ble_eq_true rfl⟩ rfl (by decide +kernel) (fun w12 g10 e11 => ?_)
      refine s_if_ne (pc := 31) (off := 10) 41 (by decide +kernel) (by decide) (fun _ => ?_) (fun _ => ?_)
      · refine s_aload_n (pc := 34) (k0 := 0) (i := 0) rfl 0 rfl (by decide +kernel) ?_
        refine s_bipush (pc := 35) (n := -2) (v := (-2 : Int32)) (by decide) (by decide +kernel) ?_
        have c20 := kp (Le.tr e3 (Le.tr e5 (Le.tr e8 e11))) c1 (by decide)
        refine s_cVi (pc := 37) [.int (-2 : Int32)] (tX7_refuse a0 (-2 : Int32) g10) c20 cw_X7_138 rfl ⟨⟨Nat.le_of_ble_eq_true rfl, Nat.le_of_ble_eq_true rfl⟩, Nat.le_of_ble_eq_true rfl⟩ rfl (by decide +kernel) (fun w23 g21 e22 => ?_)
        exact s_iret (pc := 40) rfl (by decide +kernel)
      · refine s_aload_n (pc := 41) (k0 := 0) (i := 0) rfl 0 rfl (by decide +kernel) ?_
        refine s_iload_n (pc := 42) (k0 := 1) (i := 1) rfl 1 rfl (by decide +kernel) ?_
        refine s_iconst (pc := 43) (n := 0) (v := (0 : Int32)) (by decide) (by decide +kernel) ?_
        have c13 := kp (Le.tr e3 (Le.tr e5 (Le.tr e8 e11))) c1 (by decide)
        refine s_cVv (pc := 44) [.int a1, .int (0 : Int32)] (tX7_laySpans a0 a1 (0 : Int32) g10) c13 cw_X7_181 rfl ⟨⟨Nat.le_of_ble_eq_true rfl, Nat.le_of_ble_eq_true rfl⟩, Nat.le_of_ble_eq_true rfl⟩ rfl (by decide +kernel) (fun _ g14 e15 => ?_)
        refine s_aload_n (pc := 47) (k0 := 0) (i := 0) rfl 0 rfl (by decide +kernel) ?_
        refine s_iconst (pc := 48) (n := 0) (v := (0 : Int32)) (by decide) (by decide +kernel) ?_
        have c16 := kp e15 c13 (by decide)
        refine s_putI (pc := 49) (k := 19) c16 ft_X7_158 (fw_7_19 _ _) rfl rfl (by decide +kernel) ?_
        refine s_nmH (o := g14) rfl (fun g17 e18 => ?_)
        refine s_iconst (pc := 52) (n := 0) (v := (0 : Int32)) (by decide) (by decide +kernel) ?_
        refine s_nmI (fun v19 => ?_)
        refine s_istore (pc := 53) (L' := [(4, .int v19), (0, .ref a0), (1, .int a1), (2, .int a2), (3, .int a3)]) (i := 4) (by decide) rfl (by decide +kernel) ?_
        refine S_sub [1, 3, 4, 0] rfl ?_
        exact pX7_move_l55 FU a0 a2 a3 v19 g17
theorem tX7_move (a0 : Nat) (a1 : Int32) (a2 : Int32) (a3 : Int32) (h : xH) : Ct yX7_move kX7_move emI [.ref a0, .int a1, .int a2, .int a3] h (fX7_move a0 a1 a2 a3 h) := Ct_of (by decide +kernel) rfl rfl rfl (Nat.le_of_ble_eq_true rfl) rfl (pX7_move_e a0 a1 a2 a3 h)
def fX7_times_b50 (r50 : Nat → Int32 → Int32 → xH → Option (Int32 × xH))  (a0 : Nat) (a2 : Int32) (a3 : Int32) (h : xH) : Option (Int32 × xH) :=
  if kc h a0 = 7 then
  if (hI h a0 26) ≤ a3 then (
  bd (fX7_onto a0 (10 : Int32) h) (fun w4 g2 =>
  some (w4, g2)))
  else (
  lt ((4 : Int32) * a3) (fun v5 =>
  if kc h (hR h a0 25) = 8 then
  if ix v5 (kl h (hR h a0 25)) then
  if ix (v5 + (1 : Int32)) (kl h (hR h a0 25)) then
  if ix (v5 + (2 : Int32)) (kl h (hR h a0 25)) then
  if ix (v5 + (3 : Int32)) (kl h (hR h a0 25)) then
  bd (fX7_lineBy a0 ((hI h (hR h a0 25) v5.toNatClampNeg).toInt64) (((hI h (hR h a0 25) (v5 + (1 : Int32)).toNatClampNeg).toInt64) * a2.toInt64) ((hI h (hR h a0 25) (v5 + (2 : Int32)).toNatClampNeg).toInt64) (((hI h (hR h a0 25) (v5 + (3 : Int32)).toNatClampNeg).toInt64) * a2.toInt64) h) (fun _ g11 =>
  lt (a3 + (1 : Int32)) (fun v13 =>
  r50 a0 a2 v13 g11))
  else none
  else none
  else none
  else none
  else none))
  else none
def fX7_times_l50  : Nat → Nat → Int32 → Int32 → xH → Option (Int32 × xH)
  | 0 => fun _ _ _ _ => none
  | k + 1 => fX7_times_b50 (fX7_times_l50  k)
def fX7_times   (a0 : Nat) (a1 : Int32) (a2 : Int32) (h : xH) : Option (Int32 × xH) :=
  if kc h a0 = 7 then
  lt (sI h a0 0 (0 : Int32)) (fun g2 =>
  bd (fX7_in a2.toInt64 (0 : Int64) (60 : Int64) g2) (fun w6 g4 =>
  if w6 = 0 then (
  bd (fX7_refuse a0 (-1 : Int32) g4) (fun w24 g22 =>
  some (w24, g22)))
  else (
  bd (fX7_isStore a1 g4) (fun w9 g7 =>
  if w9 = 0 then (
  bd (fX7_refuse a0 (-2 : Int32) g7) (fun w20 g18 =>
  some (w20, g18)))
  else (
  bd (fX7_laySpans a0 a1 (0 : Int32) g7) (fun _ g11 =>
  lt (sI g11 a0 19 (0 : Int32)) (fun g14 =>
  lt (0 : Int32) (fun v16 =>
  fX7_times_l50 FU a0 a2 v16 g14))))))))
  else none
theorem pX7_times_b50 {h0 : xH} {r50 : Nat → Int32 → Int32 → xH → Option (Int32 × xH)} (hr50 : ∀  (a0 : Nat) (a2 : Int32) (a3 : Int32) (g : xH), S emI kX7_times h0 50 [(0, .ref a0), (2, .int a2), (3, .int a3)] [] g (r50  a0 a2 a3 g))  (a0 : Nat) (a2 : Int32) (a3 : Int32) (h : xH) : S emI kX7_times h0 50 [(0, .ref a0), (2, .int a2), (3, .int a3)] [] h (fX7_times_b50 r50 a0 a2 a3 h) := by
  unfold fX7_times_b50
  refine s_iload_n (pc := 50) (k0 := 3) (i := 3) rfl 2 rfl (by decide +kernel) ?_
  refine s_aload_n (pc := 51) (k0 := 0) (i := 0) rfl 0 rfl (by decide +kernel) ?_
  refine S_gd (fun c1 => ?_)
  refine s_getI (pc := 52) (k := 26) c1 ft_X7_165 rfl (by decide +kernel) ?_
  refine s_icmp_ge (pc := 55) (off := 62) 117 (by decide +kernel) (by decide) (fun _ => ?_) (fun _ => ?_)
  · refine s_aload_n (pc := 117) (k0 := 0) (i := 0) rfl 0 rfl (by decide +kernel) ?_
    refine s_bipush (pc := 118) (n := 10) (v := (10 : Int32)) (by decide) (by decide +kernel) ?_
    refine s_cVi (pc := 120) [.int (10 : Int32)] (tX7_onto a0 (10 : Int32) h) c1 cw_X7_257 rfl ⟨⟨Nat.le_of_ble_eq_true rfl, Nat.le_of_ble_eq_true rfl⟩, Nat.le_of_ble_eq_true rfl⟩ rfl (by decide +kernel) (fun w4 g2 e3 => ?_)
    exact s_iret (pc := 123) rfl (by decide +kernel)
  · refine s_iconst (pc := 58) (n := 4) (v := (4 : Int32)) (by decide) (by decide +kernel) ?_
    refine s_iload_n (pc := 59) (k0 := 3) (i := 3) rfl 2 rfl (by decide +kernel) ?_
    refine s_imul (pc := 60) (by decide +kernel) ?_
    refine s_nmI (fun v5 => ?_)
    refine s_istore (pc := 61) (L' := [(4, .int v5), (0, .ref a0), (2, .int a2), (3, .int a3)]) (i := 4) (by decide) rfl (by decide +kernel) ?_
    refine s_aload_n (pc := 63) (k0 := 0) (i := 0) rfl 1 rfl (by decide +kernel) ?_
    refine s_aload_n (pc := 64) (k0 := 0) (i := 0) rfl 1 rfl (by decide +kernel) ?_
    refine s_getR (pc := 65) (k := 25) c1 ft_X7_72 rfl (by decide +kernel) ?_
    refine s_iload (pc := 68) (i := 4) 0 rfl (by decide +kernel) ?_
    refine S_gd (fun c6 => ?_)
    refine S_gd (fun c7 => ?_)
    refine s_iald (pc := 70) c6 c7 (by decide +kernel) ?_
    refine s_i2l (pc := 71) (by decide +kernel) ?_
    refine s_aload_n (pc := 72) (k0 := 0) (i := 0) rfl 1 rfl (by decide +kernel) ?_
    refine s_getR (pc := 73) (k := 25) c1 ft_X7_72 rfl (by decide +kernel) ?_
    refine s_iload (pc := 76) (i := 4) 0 rfl (by decide +kernel) ?_
    refine s_iconst (pc := 78) (n := 1) (v := (1 : Int32)) (by decide) (by decide +kernel) ?_
    refine s_iadd (pc := 79) (by decide +kernel) ?_
    refine S_gd (fun c8 => ?_)
    refine s_iald (pc := 80) c6 c8 (by decide +kernel) ?_
    refine s_i2l (pc := 81) (by decide +kernel) ?_
    refine s_iload_n (pc := 82) (k0 := 2) (i := 2) rfl 2 rfl (by decide +kernel) ?_
    refine s_i2l (pc := 83) (by decide +kernel) ?_
    refine s_lmul (pc := 84) (by decide +kernel) ?_
    refine s_aload_n (pc := 85) (k0 := 0) (i := 0) rfl 1 rfl (by decide +kernel) ?_
    refine s_getR (pc := 86) (k := 25) c1 ft_X7_72 rfl (by decide +kernel) ?_
    refine s_iload (pc := 89) (i := 4) 0 rfl (by decide +kernel) ?_
    refine s_iconst (pc := 91) (n := 2) (v := (2 : Int32)) (by decide) (by decide +kernel) ?_
    refine s_iadd (pc := 92) (by decide +kernel) ?_
    refine S_gd (fun c9 => ?_)
    refine s_iald (pc := 93) c6 c9 (by decide +kernel) ?_
    refine s_i2l (pc := 94) (by decide +kernel) ?_
    refine s_aload_n (pc := 95) (k0 := 0) (i := 0) rfl 1 rfl (by decide +kernel) ?_
    refine s_getR (pc := 96) (k := 25) c1 ft_X7_72 rfl (by decide +kernel) ?_
    refine s_iload (pc := 99) (i := 4) 0 rfl (by decide +kernel) ?_
    refine s_iconst (pc := 101) (n := 3) (v := (3 : Int32)) (by decide) (by decide +kernel) ?_
    refine s_iadd (pc := 102) (by decide +kernel) ?_
    refine S_gd (fun c10 => ?_)
    refine s_iald (pc := 103) c6 c10 (by decide +kernel) ?_
    refine s_i2l (pc := 104) (by decide +kernel) ?_
    refine s_iload_n (pc := 105) (k0 := 2) (i := 2) rfl 2 rfl (by decide +kernel) ?_
    refine s_i2l (pc := 106) (by decide +kernel) ?_
    refine s_lmul (pc := 107) (by decide +kernel) ?_
    refine s_cVv (pc := 108) [.long ((hI h (hR h a0 25) v5.toNatClampNeg).toInt64), .long (((hI h (hR h a0 25) (v5 + (1 : Int32)).toNatClampNeg).toInt64) * a2.toInt64), .long ((hI h (hR h a0 25) (v5 + (2 : Int32)).toNatClampNeg).toInt64), .long (((hI h (hR h a0 25) (v5 + (3 : Int32)).toNatClampNeg).toInt64) * a2.toInt64)] (tX7_lineBy a0 ((hI h (hR h a0 25) v5.toNatClampNeg).toInt64) (((hI h (hR h a0 25) (v5 + (1 : Int32)).toNatClampNeg).toInt64) * a2.toInt64) ((hI h (hR h a0 25) (v5 + (2 : Int32)).toNatClampNeg).toInt64) (((hI h (hR h a0 25) (v5 + (3 : Int32)).toNatClampNeg).toInt64) * a2.toInt64) h) c1 cw_X7_185 rfl ⟨⟨Nat.le_of_ble_eq_true rfl, Nat.le_of_ble_eq_true rfl⟩, Nat.le_of_ble_eq_true rfl⟩ rfl (by decide +kernel) (fun _ g11 e12 => ?_)
    refine s_iinc (pc := 111) (L' := [(3, .int (a3 + (1 : Int32))), (4, .int v5), (0, .ref a0), (2, .int a2)]) (i := 3) (n := 1) 3 rfl rfl (by decide) rfl (by decide +kernel) ?_
    refine s_nmI0 (e := a3 + (1 : Int32)) (L := fun v13 => [(3, .int v13), (4, .int v5), (0, .ref a0), (2, .int a2)]) (fun v13 => ?_)
    refine s_goto (pc := 114) (off := -64) 50 (by decide +kernel) (by decide) ?_
    refine S_sub [2, 3, 0] rfl ?_
    exact hr50 a0 a2 v13 g11
theorem pX7_times_l50 {h0 : xH}   : ∀ (k : Nat)  (a0 : Nat) (a2 : Int32) (a3 : Int32) (h : xH), S emI kX7_times h0 50 [(0, .ref a0), (2, .int a2), (3, .int a3)] [] h (fX7_times_l50  k  a0 a2 a3 h) := by
  intro k
  induction k with
  | zero => intros; exact S_none
  | succ k ih => intro  a0 a2 a3 h; exact pX7_times_b50 ih  a0 a2 a3 h
theorem pX7_times_e    (a0 : Nat) (a1 : Int32) (a2 : Int32) (h : xH) : S emI kX7_times h 0 [(0, .ref a0), (1, .int a1), (2, .int a2)] [] h (fX7_times  a0 a1 a2 h) := by
  unfold fX7_times
  refine s_aload_n (pc := 0) (k0 := 0) (i := 0) rfl 0 rfl (by decide +kernel) ?_
  refine s_iconst (pc := 1) (n := 0) (v := (0 : Int32)) (by decide) (by decide +kernel) ?_
  refine S_gd (fun c1 => ?_)
  refine s_putI (pc := 2) (k := 0) c1 ft_X7_107 (fw_7_0 _ _) rfl rfl (by decide +kernel) ?_
  refine s_nmH (o := h) rfl (fun g2 e3 => ?_)
  refine s_iload_n (pc := 5) (k0 := 2) (i := 2) rfl 2 rfl (by decide +kernel) ?_
  refine s_i2l (pc := 6) (by decide +kernel) ?_
  refine s_lconst (pc := 7) (n := 0) (v := (0 : Int64)) (by decide) (by decide +kernel) ?_
  refine s_ldc2 (pc := 8) (v := (60 : Int64)) (index := 274) (gd_of 1214 (by decide +kernel) rfl) (by decide +kernel) ?_
  refine s_cSi (pc := 11) [.long a2.toInt64, .long (0 : Int64), .long (60 : Int64)] (tX7_in a2.toInt64 (0 : Int64) (60 : Int64) g2) cw_X7_114 rfl ⟨⟨Nat.le_of_ble_eq_true rfl, Nat.le_of_ble_eq_true rfl⟩, Nat.le_of_ble_eq_true rfl⟩ rfl (by decide +kernel) (fun w6 g4 e5 => ?_)
  refine s_if_ne (pc := 14) (off := 9) 23 (by decide +kernel) (by decide) (fun _ => ?_) (fun _ => ?_)
  · refine s_aload_n (pc := 17) (k0 := 0) (i := 0) rfl 0 rfl (by decide +kernel) ?_
    refine s_iconst (pc := 18) (n := -1) (v := (-1 : Int32)) (by decide) (by decide +kernel) ?_
    have c21 := kp (Le.tr e3 e5) c1 (by decide)
    refine s_cVi (pc := 19) [.int (-1 : Int32)] (tX7_refuse a0 (-1 : Int32) g4) c21 cw_X7_138 rfl ⟨⟨Nat.le_of_ble_eq_true rfl, Nat.le_of_ble_eq_true rfl⟩, Nat.le_of_ble_eq_true rfl⟩ rfl (by decide +kernel) (fun w24 g22 e23 => ?_)
    exact s_iret (pc := 22) rfl (by decide +kernel)
  · refine s_iload_n (pc := 23) (k0 := 1) (i := 1) rfl 1 rfl (by decide +kernel) ?_
    refine s_cSi (pc := 24) [.int a1] (tX7_isStore a1 g4) cw_X7_247 rfl ⟨⟨Nat.le_of_ble_eq_true rfl, Nat.le_of_ble_eq_true rfl⟩, Nat.le_of_ble_eq_true rfl⟩ rfl (by decide +kernel) (fun w9 g7 e8 => ?_)
    refine s_if_ne (pc := 27) (off := 10) 37 (by decide +kernel) (by decide) (fun _ => ?_) (fun _ => ?_)
    · refine s_aload_n (pc := 30) (k0 := 0) (i := 0) rfl 0 rfl (by decide +kernel) ?_
      refine s_bipush (pc := 31) (n := -2) (v := (-2 : Int32)) (by decide) (by decide +kernel) ?_
      have c17 := kp (Le.tr e3 (Le.tr e5 e8)) c1 (by decide)
      refine s_cVi (pc := 33) [.int (-2 : Int32)] (tX7_refuse a0 (-2 : Int32) g7) c17 cw_X7_138 rfl ⟨⟨Nat.le_of_ble_eq_true rfl, Nat.le_of_ble_eq_true rfl⟩, Nat.le_of_ble_eq_true rfl⟩ rfl (by decide +kernel) (fun w20 g18 e19 => ?_)
      exact s_iret (pc := 36) rfl (by decide +kernel)
    · refine s_aload_n (pc := 37) (k0 := 0) (i := 0) rfl 0 rfl (by decide +kernel) ?_
      refine s_iload_n (pc := 38) (k0 := 1) (i := 1) rfl 1 rfl (by decide +kernel) ?_
      refine s_iconst (pc := 39) (n := 0) (v := (0 : Int32)) (by decide) (by decide +kernel) ?_
      have c10 := kp (Le.tr e3 (Le.tr e5 e8)) c1 (by decide)
      refine s_cVv (pc := 40) [.int a1, .int (0 : Int32)] (tX7_laySpans a0 a1 (0 : Int32) g7) c10 cw_X7_181 rfl ⟨⟨Nat.le_of_ble_eq_true rfl, Nat.le_of_ble_eq_true rfl⟩, Nat.le_of_ble_eq_true rfl⟩ rfl (by decide +kernel) (fun _ g11 e12 => ?_)
      refine s_aload_n (pc := 43) (k0 := 0) (i := 0) rfl 0 rfl (by decide +kernel) ?_
      refine s_iconst (pc := 44) (n := 0) (v := (0 : Int32)) (by decide) (by decide +kernel) ?_
      have c13 := kp e12 c10 (by decide)
      refine s_putI (pc := 45) (k := 19) c13 ft_X7_158 (fw_7_19 _ _) rfl rfl (by decide +kernel) ?_
      refine s_nmH (o := g11) rfl (fun g14 e15 => ?_)
      refine s_iconst (pc := 48) (n := 0) (v := (0 : Int32)) (by decide) (by decide +kernel) ?_
      refine s_nmI (fun v16 => ?_)
      refine s_istore_n (pc := 49) (L' := [(3, .int v16), (0, .ref a0), (1, .int a1), (2, .int a2)]) (k0 := 3) (i := 3) rfl (by decide) rfl (by decide +kernel) ?_
      refine S_sub [1, 3, 0] rfl ?_
      exact pX7_times_l50 FU a0 a2 v16 g14
theorem tX7_times (a0 : Nat) (a1 : Int32) (a2 : Int32) (h : xH) : Ct yX7_times kX7_times emI [.ref a0, .int a1, .int a2] h (fX7_times a0 a1 a2 h) := Ct_of (by decide +kernel) rfl rfl rfl (Nat.le_of_ble_eq_true rfl) rfl (pX7_times_e a0 a1 a2 h)
def fX7_lay_   (a0 : Nat) (a1 : Int32) (h : xH) : Option (Int32 × xH) :=
  if kc h a0 = 7 then
  lt (sI h a0 0 (0 : Int32)) (fun g2 =>
  bd (fX7_isStore a1 g2) (fun w6 g4 =>
  if w6 = 0 then (
  bd (fX7_refuse a0 (-2 : Int32) g4) (fun w20 g18 =>
  some (w20, g18)))
  else (
  lt (sI g4 a0 19 (0 : Int32)) (fun g8 =>
  bd (fX7_linesOf a0 a1 g8) (fun _ g11 =>
  bd (fX7_onto a0 (11 : Int32) g11) (fun w16 g14 =>
  some (w16, g14)))))))
  else none
theorem pX7_lay__e    (a0 : Nat) (a1 : Int32) (h : xH) : S emI kX7_lay_ h 0 [(0, .ref a0), (1, .int a1)] [] h (fX7_lay_  a0 a1 h) := by
  unfold fX7_lay_
  refine s_aload_n (pc := 0) (k0 := 0) (i := 0) rfl 0 rfl (by decide +kernel) ?_
  refine s_iconst (pc := 1) (n := 0) (v := (0 : Int32)) (by decide) (by decide +kernel) ?_
  refine S_gd (fun c1 => ?_)
  refine s_putI (pc := 2) (k := 0) c1 ft_X7_107 (fw_7_0 _ _) rfl rfl (by decide +kernel) ?_
  refine s_nmH (o := h) rfl (fun g2 e3 => ?_)
  refine s_iload_n (pc := 5) (k0 := 1) (i := 1) rfl 1 rfl (by decide +kernel) ?_
  refine s_cSi (pc := 6) [.int a1] (tX7_isStore a1 g2) cw_X7_247 rfl ⟨⟨Nat.le_of_ble_eq_true rfl, Nat.le_of_ble_eq_true rfl⟩, Nat.le_of_ble_eq_true rfl⟩ rfl (by decide +kernel) (fun w6 g4 e5 => ?_)
  refine s_if_ne (pc := 9) (off := 10) 19 (by decide +kernel) (by decide) (fun _ => ?_) (fun _ => ?_)
  · refine s_aload_n (pc := 12) (k0 := 0) (i := 0) rfl 0 rfl (by decide +kernel) ?_
    refine s_bipush (pc := 13) (n := -2) (v := (-2 : Int32)) (by decide) (by decide +kernel) ?_
    have c17 := kp (Le.tr e3 e5) c1 (by decide)
    refine s_cVi (pc := 15) [.int (-2 : Int32)] (tX7_refuse a0 (-2 : Int32) g4) c17 cw_X7_138 rfl ⟨⟨Nat.le_of_ble_eq_true rfl, Nat.le_of_ble_eq_true rfl⟩, Nat.le_of_ble_eq_true rfl⟩ rfl (by decide +kernel) (fun w20 g18 e19 => ?_)
    exact s_iret (pc := 18) rfl (by decide +kernel)
  · refine s_aload_n (pc := 19) (k0 := 0) (i := 0) rfl 0 rfl (by decide +kernel) ?_
    refine s_iconst (pc := 20) (n := 0) (v := (0 : Int32)) (by decide) (by decide +kernel) ?_
    have c7 := kp (Le.tr e3 e5) c1 (by decide)
    refine s_putI (pc := 21) (k := 19) c7 ft_X7_158 (fw_7_19 _ _) rfl rfl (by decide +kernel) ?_
    refine s_nmH (o := g4) rfl (fun g8 e9 => ?_)
    refine s_aload_n (pc := 24) (k0 := 0) (i := 0) rfl 0 rfl (by decide +kernel) ?_
    refine s_iload_n (pc := 25) (k0 := 1) (i := 1) rfl 1 rfl (by decide +kernel) ?_
    have c10 := kp e9 c7 (by decide)
    refine s_cVv (pc := 26) [.int a1] (tX7_linesOf a0 a1 g8) c10 cw_X7_251 rfl ⟨⟨Nat.le_of_ble_eq_true rfl, Nat.le_of_ble_eq_true rfl⟩, Nat.le_of_ble_eq_true rfl⟩ rfl (by decide +kernel) (fun _ g11 e12 => ?_)
    refine s_aload_n (pc := 29) (k0 := 0) (i := 0) rfl 0 rfl (by decide +kernel) ?_
    refine s_bipush (pc := 30) (n := 11) (v := (11 : Int32)) (by decide) (by decide +kernel) ?_
    have c13 := kp e12 c10 (by decide)
    refine s_cVi (pc := 32) [.int (11 : Int32)] (tX7_onto a0 (11 : Int32) g11) c13 cw_X7_257 rfl ⟨⟨Nat.le_of_ble_eq_true rfl, Nat.le_of_ble_eq_true rfl⟩, Nat.le_of_ble_eq_true rfl⟩ rfl (by decide +kernel) (fun w16 g14 e15 => ?_)
    exact s_iret (pc := 35) rfl (by decide +kernel)
theorem tX7_lay_ (a0 : Nat) (a1 : Int32) (h : xH) : Ct yX7_lay_ kX7_lay_ emI [.ref a0, .int a1] h (fX7_lay_ a0 a1 h) := Ct_of (by decide +kernel) rfl rfl rfl (Nat.le_of_ble_eq_true rfl) rfl (pX7_lay__e a0 a1 h)
def fX7_canPut_b94 (r17 : Nat → Int32 → Int32 → xH → Option (Int32 × xH)) (s0 : Int32) (a0 : Nat) (a2 : Int32) (h : xH) : Option (Int32 × xH) :=
  lt (a2 + (1 : Int32)) (fun v1 =>
  r17 a0 s0 v1 h)
def fX7_canPut_b93 (r17 : Nat → Int32 → Int32 → xH → Option (Int32 × xH))  (a0 : Nat) (a2 : Int32) (h : xH) : Option (Int32 × xH) :=
  fX7_canPut_b94 r17 (0 : Int32) a0 a2 h
def fX7_canPut_b17 (r17 : Nat → Int32 → Int32 → xH → Option (Int32 × xH))  (a0 : Nat) (a1 : Int32) (a2 : Int32) (h : xH) : Option (Int32 × xH) :=
  if kc h a0 = 7 then
  if (hI h a0 4) ≤ a2 then (
  if a1 = 0 ∨ a1 = 1 then
  some (a1, h)
  else none)
  else (
  if a1 = 0 then (
  if a1 = 0 ∨ a1 = 1 then
  some (a1, h)
  else none)
  else (
  if kc h (hR h a0 5) = 9 then
  if ix (((4 : Int32) * a2) + (1 : Int32)) (kl h (hR h a0 5)) then
  if (lg_cmp (hJ h (hR h a0 5) (((4 : Int32) * a2) + (1 : Int32)).toNatClampNeg) (1 : Int64)) = 0 then (
  if ix (((4 : Int32) * a2) + (3 : Int32)) (kl h (hR h a0 5)) then
  if (lg_cmp (hJ h (hR h a0 5) (((4 : Int32) * a2) + (3 : Int32)).toNatClampNeg) (1 : Int64)) = 0 then (
  if ix ((4 : Int32) * a2) (kl h (hR h a0 5)) then
  bd (fX7_isPlace (hJ h (hR h a0 5) ((4 : Int32) * a2).toNatClampNeg) h) (fun w10 g8 =>
  if w10 = 0 then (
  fX7_canPut_b93 r17 a0 a2 g8)
  else (
  if kc g8 (hR g8 a0 5) = 9 then
  if ix (((4 : Int32) * a2) + (2 : Int32)) (kl g8 (hR g8 a0 5)) then
  bd (fX7_isPlace (hJ g8 (hR g8 a0 5) (((4 : Int32) * a2) + (2 : Int32)).toNatClampNeg) g8) (fun w16 g14 =>
  if w16 = 0 then (
  fX7_canPut_b93 r17 a0 a2 g14)
  else (
  fX7_canPut_b94 r17 (1 : Int32) a0 a2 g14))
  else none
  else none))
  else none)
  else (
  fX7_canPut_b93 r17 a0 a2 h)
  else none)
  else (
  fX7_canPut_b93 r17 a0 a2 h)
  else none
  else none))
  else none
def fX7_canPut_l17  : Nat → Nat → Int32 → Int32 → xH → Option (Int32 × xH)
  | 0 => fun _ _ _ _ => none
  | k + 1 => fX7_canPut_b17 (fX7_canPut_l17  k)
def fX7_canPut_b14  (s0 : Int32) (a0 : Nat) (h : xH) : Option (Int32 × xH) :=
  lt (0 : Int32) (fun v1 =>
  fX7_canPut_l17 FU a0 s0 v1 h)
def fX7_canPut   (a0 : Nat) (h : xH) : Option (Int32 × xH) :=
  if kc h a0 = 7 then
  if (12 : Int32) < (hI h a0 4) then (
  fX7_canPut_b14 (0 : Int32) a0 h)
  else (
  fX7_canPut_b14 (1 : Int32) a0 h)
  else none
theorem pX7_canPut_b94 {h0 : xH} {r17 : Nat → Int32 → Int32 → xH → Option (Int32 × xH)} (hr17 : ∀  (a0 : Nat) (a1 : Int32) (a2 : Int32) (g : xH), S emI kX7_canPut h0 17 [(0, .ref a0), (1, .int a1), (2, .int a2)] [] g (r17  a0 a1 a2 g)) (s0 : Int32) (a0 : Nat) (a2 : Int32) (h : xH) : S emI kX7_canPut h0 94 [(0, .ref a0), (2, .int a2)] [.int s0] h (fX7_canPut_b94 r17 s0 a0 a2 h) := by
  unfold fX7_canPut_b94
  refine s_istore_n (pc := 94) (L' := [(1, .int s0), (0, .ref a0), (2, .int a2)]) (k0 := 1) (i := 1) rfl (by decide) rfl (by decide +kernel) ?_
  refine s_iinc (pc := 95) (L' := [(2, .int (a2 + (1 : Int32))), (1, .int s0), (0, .ref a0)]) (i := 2) (n := 1) 2 rfl rfl (by decide) rfl (by decide +kernel) ?_
  refine s_nmI0 (e := a2 + (1 : Int32)) (L := fun v1 => [(2, .int v1), (1, .int s0), (0, .ref a0)]) (fun v1 => ?_)
  refine s_goto (pc := 98) (off := -81) 17 (by decide +kernel) (by decide) ?_
  refine S_sub [2, 1, 0] rfl ?_
  exact hr17 a0 s0 v1 h
theorem pX7_canPut_b93 {h0 : xH} {r17 : Nat → Int32 → Int32 → xH → Option (Int32 × xH)} (hr17 : ∀  (a0 : Nat) (a1 : Int32) (a2 : Int32) (g : xH), S emI kX7_canPut h0 17 [(0, .ref a0), (1, .int a1), (2, .int a2)] [] g (r17  a0 a1 a2 g))  (a0 : Nat) (a2 : Int32) (h : xH) : S emI kX7_canPut h0 93 [(0, .ref a0), (2, .int a2)] [] h (fX7_canPut_b93 r17 a0 a2 h) := by
  unfold fX7_canPut_b93
  refine s_iconst (pc := 93) (n := 0) (v := (0 : Int32)) (by decide) (by decide +kernel) ?_
  exact pX7_canPut_b94 hr17 (0 : Int32) a0 a2 h
theorem pX7_canPut_b17 {h0 : xH} {r17 : Nat → Int32 → Int32 → xH → Option (Int32 × xH)} (hr17 : ∀  (a0 : Nat) (a1 : Int32) (a2 : Int32) (g : xH), S emI kX7_canPut h0 17 [(0, .ref a0), (1, .int a1), (2, .int a2)] [] g (r17  a0 a1 a2 g))  (a0 : Nat) (a1 : Int32) (a2 : Int32) (h : xH) : S emI kX7_canPut h0 17 [(0, .ref a0), (1, .int a1), (2, .int a2)] [] h (fX7_canPut_b17 r17 a0 a1 a2 h) := by
  unfold fX7_canPut_b17
  refine s_iload_n (pc := 17) (k0 := 2) (i := 2) rfl 2 rfl (by decide +kernel) ?_
  refine s_aload_n (pc := 18) (k0 := 0) (i := 0) rfl 0 rfl (by decide +kernel) ?_
  refine S_gd (fun c1 => ?_)
  refine s_getI (pc := 19) (k := 4) c1 ft_X7_125 rfl (by decide +kernel) ?_
  refine s_icmp_ge (pc := 22) (off := 79) 101 (by decide +kernel) (by decide) (fun _ => ?_) (fun _ => ?_)
  · refine s_iload_n (pc := 101) (k0 := 1) (i := 1) rfl 1 rfl (by decide +kernel) ?_
    refine S_gd (fun c2 => ?_)
    exact s_zret (pc := 102) c2 rfl (by decide +kernel)
  · refine s_iload_n (pc := 25) (k0 := 1) (i := 1) rfl 1 rfl (by decide +kernel) ?_
    refine s_if_eq (pc := 26) (off := 75) 101 (by decide +kernel) (by decide) (fun _ => ?_) (fun _ => ?_)
    · refine s_iload_n (pc := 101) (k0 := 1) (i := 1) rfl 1 rfl (by decide +kernel) ?_
      refine S_gd (fun c3 => ?_)
      exact s_zret (pc := 102) c3 rfl (by decide +kernel)
    · refine s_aload_n (pc := 29) (k0 := 0) (i := 0) rfl 0 rfl (by decide +kernel) ?_
      refine s_getR (pc := 30) (k := 5) c1 ft_X7_18 rfl (by decide +kernel) ?_
      refine s_iconst (pc := 33) (n := 4) (v := (4 : Int32)) (by decide) (by decide +kernel) ?_
      refine s_iload_n (pc := 34) (k0 := 2) (i := 2) rfl 2 rfl (by decide +kernel) ?_
      refine s_imul (pc := 35) (by decide +kernel) ?_
      refine s_iconst (pc := 36) (n := 1) (v := (1 : Int32)) (by decide) (by decide +kernel) ?_
      refine s_iadd (pc := 37) (by decide +kernel) ?_
      refine S_gd (fun c4 => ?_)
      refine S_gd (fun c5 => ?_)
      refine s_lald (pc := 38) c4 c5 (by decide +kernel) ?_
      refine s_lconst (pc := 39) (n := 1) (v := (1 : Int64)) (by decide) (by decide +kernel) ?_
      refine s_lcmp (pc := 40) (by decide +kernel) ?_
      refine s_if_ne (pc := 41) (off := 52) 93 (by decide +kernel) (by decide) (fun _ => ?_) (fun _ => ?_)
      · refine s_aload_n (pc := 44) (k0 := 0) (i := 0) rfl 0 rfl (by decide +kernel) ?_
        refine s_getR (pc := 45) (k := 5) c1 ft_X7_18 rfl (by decide +kernel) ?_
        refine s_iconst (pc := 48) (n := 4) (v := (4 : Int32)) (by decide) (by decide +kernel) ?_
        refine s_iload_n (pc := 49) (k0 := 2) (i := 2) rfl 2 rfl (by decide +kernel) ?_
        refine s_imul (pc := 50) (by decide +kernel) ?_
        refine s_iconst (pc := 51) (n := 3) (v := (3 : Int32)) (by decide) (by decide +kernel) ?_
        refine s_iadd (pc := 52) (by decide +kernel) ?_
        refine S_gd (fun c6 => ?_)
        refine s_lald (pc := 53) c4 c6 (by decide +kernel) ?_
        refine s_lconst (pc := 54) (n := 1) (v := (1 : Int64)) (by decide) (by decide +kernel) ?_
        refine s_lcmp (pc := 55) (by decide +kernel) ?_
        refine s_if_ne (pc := 56) (off := 37) 93 (by decide +kernel) (by decide) (fun _ => ?_) (fun _ => ?_)
        · refine s_aload_n (pc := 59) (k0 := 0) (i := 0) rfl 0 rfl (by decide +kernel) ?_
          refine s_getR (pc := 60) (k := 5) c1 ft_X7_18 rfl (by decide +kernel) ?_
          refine s_iconst (pc := 63) (n := 4) (v := (4 : Int32)) (by decide) (by decide +kernel) ?_
          refine s_iload_n (pc := 64) (k0 := 2) (i := 2) rfl 2 rfl (by decide +kernel) ?_
          refine s_imul (pc := 65) (by decide +kernel) ?_
          refine S_gd (fun c7 => ?_)
          refine s_lald (pc := 66) c4 c7 (by decide +kernel) ?_
          refine s_cSi (pc := 67) [.long (hJ h (hR h a0 5) ((4 : Int32) * a2).toNatClampNeg)] (tX7_isPlace (hJ h (hR h a0 5) ((4 : Int32) * a2).toNatClampNeg) h) cw_X7_270 rfl ⟨⟨Nat.le_of_ble_eq_true rfl, Nat.le_of_ble_eq_true rfl⟩, Nat.le_of_ble_eq_true rfl⟩ rfl (by decide +kernel) (fun w10 g8 e9 => ?_)
          refine s_if_eq (pc := 70) (off := 23) 93 (by decide +kernel) (by decide) (fun _ => ?_) (fun _ => ?_)
          · refine S_sub [0, 2] rfl ?_
            exact pX7_canPut_b93 hr17 a0 a2 g8
          · refine s_aload_n (pc := 73) (k0 := 0) (i := 0) rfl 0 rfl (by decide +kernel) ?_
            have c11 := kp e9 c1 (by decide)
            refine s_getR (pc := 74) (k := 5) c11 ft_X7_18 rfl (by decide +kernel) ?_
            refine s_iconst (pc := 77) (n := 4) (v := (4 : Int32)) (by decide) (by decide +kernel) ?_
            refine s_iload_n (pc := 78) (k0 := 2) (i := 2) rfl 2 rfl (by decide +kernel) ?_
            refine s_imul (pc := 79) (by decide +kernel) ?_
            refine s_iconst (pc := 80) (n := 2) (v := (2 : Int32)) (by decide) (by decide +kernel) ?_
            refine s_iadd (pc := 81) (by decide +kernel) ?_
            refine S_gd (fun c12 => ?_)
            refine S_gd (fun c13 => ?_)
            refine s_lald (pc := 82) c12 c13 (by decide +kernel) ?_
            refine s_cSi (pc := 83) [.long (hJ g8 (hR g8 a0 5) (((4 : Int32) * a2) + (2 : Int32)).toNatClampNeg)] (tX7_isPlace (hJ g8 (hR g8 a0 5) (((4 : Int32) * a2) + (2 : Int32)).toNatClampNeg) g8) cw_X7_270 rfl ⟨⟨Nat.le_of_ble_eq_true rfl, Nat.le_of_ble_eq_true rfl⟩, Nat.le_of_ble_eq_true rfl⟩ rfl (by decide +kernel) (fun w16 g14 e15 => ?_)
            refine s_if_eq (pc := 86) (off := 7) 93 (by decide +kernel) (by decide) (fun _ => ?_) (fun _ => ?_)
            · refine S_sub [0, 2] rfl ?_
              exact pX7_canPut_b93 hr17 a0 a2 g14
            · refine s_iconst (pc := 89) (n := 1) (v := (1 : Int32)) (by decide) (by decide +kernel) ?_
              refine s_goto (pc := 90) (off := 4) 94 (by decide +kernel) (by decide) ?_
              refine S_sub [0, 2] rfl ?_
              exact pX7_canPut_b94 hr17 (1 : Int32) a0 a2 g14
        · refine S_sub [0, 2] rfl ?_
          exact pX7_canPut_b93 hr17 a0 a2 h
      · refine S_sub [0, 2] rfl ?_
        exact pX7_canPut_b93 hr17 a0 a2 h
theorem pX7_canPut_l17 {h0 : xH}   : ∀ (k : Nat)  (a0 : Nat) (a1 : Int32) (a2 : Int32) (h : xH), S emI kX7_canPut h0 17 [(0, .ref a0), (1, .int a1), (2, .int a2)] [] h (fX7_canPut_l17  k  a0 a1 a2 h) := by
  intro k
  induction k with
  | zero => intros; exact S_none
  | succ k ih => intro  a0 a1 a2 h; exact pX7_canPut_b17 ih  a0 a1 a2 h
theorem pX7_canPut_b14 {h0 : xH}   (s0 : Int32) (a0 : Nat) (h : xH) : S emI kX7_canPut h0 14 [(0, .ref a0)] [.int s0] h (fX7_canPut_b14 s0 a0 h) := by
  unfold fX7_canPut_b14
  refine s_istore_n (pc := 14) (L' := [(1, .int s0), (0, .ref a0)]) (k0 := 1) (i := 1) rfl (by decide) rfl (by decide +kernel) ?_
  refine s_iconst (pc := 15) (n := 0) (v := (0 : Int32)) (by decide) (by decide +kernel) ?_
  refine s_nmI (fun v1 => ?_)
  refine s_istore_n (pc := 16) (L' := [(2, .int v1), (1, .int s0), (0, .ref a0)]) (k0 := 2) (i := 2) rfl (by decide) rfl (by decide +kernel) ?_
  refine S_sub [2, 1, 0] rfl ?_
  exact pX7_canPut_l17 FU a0 s0 v1 h
theorem pX7_canPut_e    (a0 : Nat) (h : xH) : S emI kX7_canPut h 0 [(0, .ref a0)] [] h (fX7_canPut  a0 h) := by
  unfold fX7_canPut
  refine s_aload_n (pc := 0) (k0 := 0) (i := 0) rfl 0 rfl (by decide +kernel) ?_
  refine S_gd (fun c1 => ?_)
  refine s_getI (pc := 1) (k := 4) c1 ft_X7_125 rfl (by decide +kernel) ?_
  refine s_bipush (pc := 4) (n := 12) (v := (12 : Int32)) (by decide) (by decide +kernel) ?_
  refine s_icmp_gt (pc := 6) (off := 7) 13 (by decide +kernel) (by decide) (fun _ => ?_) (fun _ => ?_)
  · refine s_iconst (pc := 13) (n := 0) (v := (0 : Int32)) (by decide) (by decide +kernel) ?_
    exact pX7_canPut_b14 (0 : Int32) a0 h
  · refine s_iconst (pc := 9) (n := 1) (v := (1 : Int32)) (by decide) (by decide +kernel) ?_
    refine s_goto (pc := 10) (off := 4) 14 (by decide +kernel) (by decide) ?_
    exact pX7_canPut_b14 (1 : Int32) a0 h
theorem tX7_canPut (a0 : Nat) (h : xH) : Ct yX7_canPut kX7_canPut emI [.ref a0] h (fX7_canPut a0 h) := Ct_of (by decide +kernel) rfl rfl rfl (Nat.le_of_ble_eq_true rfl) rfl (pX7_canPut_e a0 h)
def fX7_put   (a0 : Nat) (a1 : Int32) (h : xH) : Option (Int32 × xH) :=
  if kc h a0 = 7 then
  lt (sI h a0 0 (0 : Int32)) (fun g2 =>
  bd (fX7_isStore a1 g2) (fun w6 g4 =>
  if w6 = 0 then (
  bd (fX7_refuse a0 (-2 : Int32) g4) (fun w28 g26 =>
  some (w28, g26)))
  else (
  bd (fX7_canPut a0 g4) (fun w10 g8 =>
  if w10 = 0 then (
  bd (fX7_refuse a0 (-5 : Int32) g8) (fun w24 g22 =>
  some (w24, g22)))
  else (
  bd (fX7_remember a0 (12 : Int32) g8) (fun _ g12 =>
  bd (fX7_store a0 a1 g12) (fun _ g15 =>
  bd (fX7_tell a0 (hI g15 a0 4) g15) (fun w20 g18 =>
  some (w20, g18)))))))))
  else none
theorem pX7_put_e    (a0 : Nat) (a1 : Int32) (h : xH) : S emI kX7_put h 0 [(0, .ref a0), (1, .int a1)] [] h (fX7_put  a0 a1 h) := by
  unfold fX7_put
  refine s_aload_n (pc := 0) (k0 := 0) (i := 0) rfl 0 rfl (by decide +kernel) ?_
  refine s_iconst (pc := 1) (n := 0) (v := (0 : Int32)) (by decide) (by decide +kernel) ?_
  refine S_gd (fun c1 => ?_)
  refine s_putI (pc := 2) (k := 0) c1 ft_X7_107 (fw_7_0 _ _) rfl rfl (by decide +kernel) ?_
  refine s_nmH (o := h) rfl (fun g2 e3 => ?_)
  refine s_iload_n (pc := 5) (k0 := 1) (i := 1) rfl 1 rfl (by decide +kernel) ?_
  refine s_cSi (pc := 6) [.int a1] (tX7_isStore a1 g2) cw_X7_247 rfl ⟨⟨Nat.le_of_ble_eq_true rfl, Nat.le_of_ble_eq_true rfl⟩, Nat.le_of_ble_eq_true rfl⟩ rfl (by decide +kernel) (fun w6 g4 e5 => ?_)
  refine s_if_ne (pc := 9) (off := 10) 19 (by decide +kernel) (by decide) (fun _ => ?_) (fun _ => ?_)
  · refine s_aload_n (pc := 12) (k0 := 0) (i := 0) rfl 0 rfl (by decide +kernel) ?_
    refine s_bipush (pc := 13) (n := -2) (v := (-2 : Int32)) (by decide) (by decide +kernel) ?_
    have c25 := kp (Le.tr e3 e5) c1 (by decide)
    refine s_cVi (pc := 15) [.int (-2 : Int32)] (tX7_refuse a0 (-2 : Int32) g4) c25 cw_X7_138 rfl ⟨⟨Nat.le_of_ble_eq_true rfl, Nat.le_of_ble_eq_true rfl⟩, Nat.le_of_ble_eq_true rfl⟩ rfl (by decide +kernel) (fun w28 g26 e27 => ?_)
    exact s_iret (pc := 18) rfl (by decide +kernel)
  · refine s_aload_n (pc := 19) (k0 := 0) (i := 0) rfl 0 rfl (by decide +kernel) ?_
    have c7 := kp (Le.tr e3 e5) c1 (by decide)
    refine s_cVi (pc := 20) [] (tX7_canPut a0 g4) c7 cw_X7_276 rfl ⟨⟨Nat.le_of_ble_eq_true rfl, Nat.le_of_ble_eq_true rfl⟩, Nat.le_of_ble_eq_true rfl⟩ rfl (by decide +kernel) (fun w10 g8 e9 => ?_)
    refine s_if_ne (pc := 23) (off := 10) 33 (by decide +kernel) (by decide) (fun _ => ?_) (fun _ => ?_)
    · refine s_aload_n (pc := 26) (k0 := 0) (i := 0) rfl 0 rfl (by decide +kernel) ?_
      refine s_bipush (pc := 27) (n := -5) (v := (-5 : Int32)) (by decide) (by decide +kernel) ?_
      have c21 := kp e9 c7 (by decide)
      refine s_cVi (pc := 29) [.int (-5 : Int32)] (tX7_refuse a0 (-5 : Int32) g8) c21 cw_X7_138 rfl ⟨⟨Nat.le_of_ble_eq_true rfl, Nat.le_of_ble_eq_true rfl⟩, Nat.le_of_ble_eq_true rfl⟩ rfl (by decide +kernel) (fun w24 g22 e23 => ?_)
      exact s_iret (pc := 32) rfl (by decide +kernel)
    · refine s_aload_n (pc := 33) (k0 := 0) (i := 0) rfl 0 rfl (by decide +kernel) ?_
      refine s_bipush (pc := 34) (n := 12) (v := (12 : Int32)) (by decide) (by decide +kernel) ?_
      have c11 := kp e9 c7 (by decide)
      refine s_cVv (pc := 36) [.int (12 : Int32)] (tX7_remember a0 (12 : Int32) g8) c11 cw_X7_241 rfl ⟨⟨Nat.le_of_ble_eq_true rfl, Nat.le_of_ble_eq_true rfl⟩, Nat.le_of_ble_eq_true rfl⟩ rfl (by decide +kernel) (fun _ g12 e13 => ?_)
      refine s_aload_n (pc := 39) (k0 := 0) (i := 0) rfl 0 rfl (by decide +kernel) ?_
      refine s_iload_n (pc := 40) (k0 := 1) (i := 1) rfl 1 rfl (by decide +kernel) ?_
      have c14 := kp e13 c11 (by decide)
      refine s_cVv (pc := 41) [.int a1] (tX7_store a0 a1 g12) c14 cw_X7_280 rfl ⟨⟨Nat.le_of_ble_eq_true rfl, Nat.le_of_ble_eq_true rfl⟩, Nat.le_of_ble_eq_true rfl⟩ rfl (by decide +kernel) (fun _ g15 e16 => ?_)
      refine s_aload_n (pc := 44) (k0 := 0) (i := 0) rfl 0 rfl (by decide +kernel) ?_
      refine s_aload_n (pc := 45) (k0 := 0) (i := 0) rfl 0 rfl (by decide +kernel) ?_
      have c17 := kp e16 c14 (by decide)
      refine s_getI (pc := 46) (k := 4) c17 ft_X7_125 rfl (by decide +kernel) ?_
      refine s_cVi (pc := 49) [.int (hI g15 a0 4)] (tX7_tell a0 (hI g15 a0 4) g15) c17 cw_X7_145 rfl ⟨⟨Nat.le_of_ble_eq_true rfl, Nat.le_of_ble_eq_true rfl⟩, Nat.le_of_ble_eq_true rfl⟩ rfl (by decide +kernel) (fun w20 g18 e19 => ?_)
      exact s_iret (pc := 52) rfl (by decide +kernel)
theorem tX7_put (a0 : Nat) (a1 : Int32) (h : xH) : Ct yX7_put kX7_put emI [.ref a0, .int a1] h (fX7_put a0 a1 h) := Ct_of (by decide +kernel) rfl rfl rfl (Nat.le_of_ble_eq_true rfl) rfl (pX7_put_e a0 a1 h)
def fX7_bring_b58 (r46 : Nat → Nat → Nat → Int32 → Int32 → xH → Option (Unit × xH)) (r58 : Nat → Nat → Nat → Int32 → Int32 → Int32 → xH → Option (Unit × xH))  (a0 : Nat) (a3 : Nat) (a4 : Nat) (a5 : Int32) (a6 : Int32) (a7 : Int32) (h : xH) : Option (Unit × xH) :=
  if (4 : Int32) ≤ a7 then (
  if kc h a0 = 7 then
  if kc h a4 = 10 then
  if ix (((1600 : Int32) * a5) + a6) (kl h a4) then
  if (hI h a4 (((1600 : Int32) * a5) + a6).toNatClampNeg) = 0 ∨ (hI h a4 (((1600 : Int32) * a5) + a6).toNatClampNeg) = 1 then
  if kc h (hR h a0 6) = 10 then
  if ix a6 (kl h (hR h a0 6)) then
  lt (sI h (hR h a0 6) a6.toNatClampNeg (hI h a4 (((1600 : Int32) * a5) + a6).toNatClampNeg)) (fun g7 =>
  lt (a6 + (1 : Int32)) (fun v9 =>
  r46 a0 a3 a4 a5 v9 g7))
  else none
  else none
  else none
  else none
  else none
  else none)
  else (
  if kc h a0 = 7 then
  if kc h a3 = 9 then
  if ix (((4 : Int32) * (((1600 : Int32) * a5) + a6)) + a7) (kl h a3) then
  if kc h (hR h a0 5) = 9 then
  if ix (((4 : Int32) * a6) + a7) (kl h (hR h a0 5)) then
  lt (sJ h (hR h a0 5) (((4 : Int32) * a6) + a7).toNatClampNeg (hJ h a3 (((4 : Int32) * (((1600 : Int32) * a5) + a6)) + a7).toNatClampNeg)) (fun g15 =>
  lt (a7 + (1 : Int32)) (fun v17 =>
  r58 a0 a3 a4 a5 a6 v17 g15))
  else none
  else none
  else none
  else none
  else none)
def fX7_bring_l58 (r46 : Nat → Nat → Nat → Int32 → Int32 → xH → Option (Unit × xH)) : Nat → Nat → Nat → Nat → Int32 → Int32 → Int32 → xH → Option (Unit × xH)
  | 0 => fun _ _ _ _ _ _ _ => none
  | k + 1 => fX7_bring_b58 r46 (fX7_bring_l58 r46 k)
def fX7_bring_b46 (r46 : Nat → Nat → Nat → Int32 → Int32 → xH → Option (Unit × xH))  (a0 : Nat) (a3 : Nat) (a4 : Nat) (a5 : Int32) (a6 : Int32) (h : xH) : Option (Unit × xH) :=
  if kc h a0 = 7 then
  if (hI h a0 4) ≤ a6 then (
  some ((), h))
  else (
  lt (0 : Int32) (fun v2 =>
  fX7_bring_l58 r46 FU a0 a3 a4 a5 a6 v2 h))
  else none
def fX7_bring_l46  : Nat → Nat → Nat → Nat → Int32 → Int32 → xH → Option (Unit × xH)
  | 0 => fun _ _ _ _ _ _ => none
  | k + 1 => fX7_bring_b46 (fX7_bring_l46  k)
def fX7_bring_b3 (r3 : Nat → Nat → Nat → Nat → Nat → Int32 → Int32 → xH → Option (Unit × xH))  (a0 : Nat) (a1 : Nat) (a2 : Nat) (a3 : Nat) (a4 : Nat) (a5 : Int32) (a6 : Int32) (h : xH) : Option (Unit × xH) :=
  if (222 : Int32) ≤ a6 then (
  if kc h a2 = 8 then
  if ix a5 (kl h a2) then
  if kc h a0 = 7 then
  lt (sI h a0 4 (hI h a2 a5.toNatClampNeg)) (fun g4 =>
  lt (0 : Int32) (fun v6 =>
  fX7_bring_l46 FU a0 a3 a4 a5 v6 g4))
  else none
  else none
  else none)
  else (
  if kc h a0 = 7 then
  if kc h a1 = 8 then
  if ix (((222 : Int32) * a5) + a6) (kl h a1) then
  if kc h (hR h a0 3) = 8 then
  if ix a6 (kl h (hR h a0 3)) then
  lt (sI h (hR h a0 3) a6.toNatClampNeg (hI h a1 (((222 : Int32) * a5) + a6).toNatClampNeg)) (fun g12 =>
  lt (a6 + (1 : Int32)) (fun v14 =>
  r3 a0 a1 a2 a3 a4 a5 v14 g12))
  else none
  else none
  else none
  else none
  else none)
def fX7_bring_l3  : Nat → Nat → Nat → Nat → Nat → Nat → Int32 → Int32 → xH → Option (Unit × xH)
  | 0 => fun _ _ _ _ _ _ _ _ => none
  | k + 1 => fX7_bring_b3 (fX7_bring_l3  k)
def fX7_bring   (a0 : Nat) (a1 : Nat) (a2 : Nat) (a3 : Nat) (a4 : Nat) (a5 : Int32) (h : xH) : Option (Unit × xH) :=
  lt (0 : Int32) (fun v1 =>
  fX7_bring_l3 FU a0 a1 a2 a3 a4 a5 v1 h)
theorem pX7_bring_b58 {h0 : xH} {r46 : Nat → Nat → Nat → Int32 → Int32 → xH → Option (Unit × xH)} {r58 : Nat → Nat → Nat → Int32 → Int32 → Int32 → xH → Option (Unit × xH)} (hr46 : ∀  (a0 : Nat) (a3 : Nat) (a4 : Nat) (a5 : Int32) (a6 : Int32) (g : xH), S emV kX7_bring h0 46 [(0, .ref a0), (3, .ref a3), (4, .ref a4), (5, .int a5), (6, .int a6)] [] g (r46  a0 a3 a4 a5 a6 g)) (hr58 : ∀  (a0 : Nat) (a3 : Nat) (a4 : Nat) (a5 : Int32) (a6 : Int32) (a7 : Int32) (g : xH), S emV kX7_bring h0 58 [(0, .ref a0), (3, .ref a3), (4, .ref a4), (5, .int a5), (6, .int a6), (7, .int a7)] [] g (r58  a0 a3 a4 a5 a6 a7 g))  (a0 : Nat) (a3 : Nat) (a4 : Nat) (a5 : Int32) (a6 : Int32) (a7 : Int32) (h : xH) : S emV kX7_bring h0 58 [(0, .ref a0), (3, .ref a3), (4, .ref a4), (5, .int a5), (6, .int a6), (7, .int a7)] [] h (fX7_bring_b58 r46 r58 a0 a3 a4 a5 a6 a7 h) := by
  unfold fX7_bring_b58
  refine s_iload (pc := 58) (i := 7) 5 rfl (by decide +kernel) ?_
  refine s_iconst (pc := 60) (n := 4) (v := (4 : Int32)) (by decide) (by decide +kernel) ?_
  refine s_icmp_ge (pc := 61) (off := 37) 98 (by decide +kernel) (by decide) (fun _ => ?_) (fun _ => ?_)
  · refine s_aload_n (pc := 98) (k0 := 0) (i := 0) rfl 0 rfl (by decide +kernel) ?_
    refine S_gd (fun c1 => ?_)
    refine s_getR (pc := 99) (k := 6) c1 ft_X7_22 rfl (by decide +kernel) ?_
    refine s_iload (pc := 102) (i := 6) 4 rfl (by decide +kernel) ?_
    refine s_aload (pc := 104) (i := 4) 2 rfl (by decide +kernel) ?_
    refine s_sipush (pc := 106) (n := 1600) (v := (1600 : Int32)) (by decide) (by decide +kernel) ?_
    refine s_iload (pc := 109) (i := 5) 3 rfl (by decide +kernel) ?_
    refine s_imul (pc := 111) (by decide +kernel) ?_
    refine s_iload (pc := 112) (i := 6) 4 rfl (by decide +kernel) ?_
    refine s_iadd (pc := 114) (by decide +kernel) ?_
    refine S_gd (fun c2 => ?_)
    refine S_gd (fun c3 => ?_)
    refine s_zald (pc := 115) c2 c3 (by decide +kernel) ?_
    refine S_gd (fun c4 => ?_)
    refine S_gd (fun c5 => ?_)
    refine S_gd (fun c6 => ?_)
    refine s_zast (pc := 116) c4 c5 c6 (by decide +kernel) ?_
    refine s_nmH (o := h) rfl (fun g7 e8 => ?_)
    refine s_iinc (pc := 117) (L' := [(6, .int (a6 + (1 : Int32))), (0, .ref a0), (3, .ref a3), (4, .ref a4), (5, .int a5), (7, .int a7)]) (i := 6) (n := 1) 4 rfl rfl (by decide) rfl (by decide +kernel) ?_
    refine s_nmI0 (e := a6 + (1 : Int32)) (L := fun v9 => [(6, .int v9), (0, .ref a0), (3, .ref a3), (4, .ref a4), (5, .int a5), (7, .int a7)]) (fun v9 => ?_)
    refine s_goto (pc := 120) (off := -74) 46 (by decide +kernel) (by decide) ?_
    refine S_sub [1, 2, 3, 4, 0] rfl ?_
    exact hr46 a0 a3 a4 a5 v9 g7
  · refine s_aload_n (pc := 64) (k0 := 0) (i := 0) rfl 0 rfl (by decide +kernel) ?_
    refine S_gd (fun c10 => ?_)
    refine s_getR (pc := 65) (k := 5) c10 ft_X7_18 rfl (by decide +kernel) ?_
    refine s_iconst (pc := 68) (n := 4) (v := (4 : Int32)) (by decide) (by decide +kernel) ?_
    refine s_iload (pc := 69) (i := 6) 4 rfl (by decide +kernel) ?_
    refine s_imul (pc := 71) (by decide +kernel) ?_
    refine s_iload (pc := 72) (i := 7) 5 rfl (by decide +kernel) ?_
    refine s_iadd (pc := 74) (by decide +kernel) ?_
    refine s_aload_n (pc := 75) (k0 := 3) (i := 3) rfl 1 rfl (by decide +kernel) ?_
    refine s_iconst (pc := 76) (n := 4) (v := (4 : Int32)) (by decide) (by decide +kernel) ?_
    refine s_sipush (pc := 77) (n := 1600) (v := (1600 : Int32)) (by decide) (by decide +kernel) ?_
    refine s_iload (pc := 80) (i := 5) 3 rfl (by decide +kernel) ?_
    refine s_imul (pc := 82) (by decide +kernel) ?_
    refine s_iload (pc := 83) (i := 6) 4 rfl (by decide +kernel) ?_
    refine s_iadd (pc := 85) (by decide +kernel) ?_
    refine s_imul (pc := 86) (by decide +kernel) ?_
    refine s_iload (pc := 87) (i := 7) 5 rfl (by decide +kernel) ?_
    refine s_iadd (pc := 89) (by decide +kernel) ?_
    refine S_gd (fun c11 => ?_)
    refine S_gd (fun c12 => ?_)
    refine s_lald (pc := 90) c11 c12 (by decide +kernel) ?_
    refine S_gd (fun c13 => ?_)
    refine S_gd (fun c14 => ?_)
    refine s_last (pc := 91) c13 c14 (by decide +kernel) ?_
    refine s_nmH (o := h) rfl (fun g15 e16 => ?_)
    refine s_iinc (pc := 92) (L' := [(7, .int (a7 + (1 : Int32))), (0, .ref a0), (3, .ref a3), (4, .ref a4), (5, .int a5), (6, .int a6)]) (i := 7) (n := 1) 5 rfl rfl (by decide) rfl (by decide +kernel) ?_
    refine s_nmI0 (e := a7 + (1 : Int32)) (L := fun v17 => [(7, .int v17), (0, .ref a0), (3, .ref a3), (4, .ref a4), (5, .int a5), (6, .int a6)]) (fun v17 => ?_)
    refine s_goto (pc := 95) (off := -37) 58 (by decide +kernel) (by decide) ?_
    refine S_sub [1, 2, 3, 4, 5, 0] rfl ?_
    exact hr58 a0 a3 a4 a5 a6 v17 g15
theorem pX7_bring_l58 {h0 : xH} {r46 : Nat → Nat → Nat → Int32 → Int32 → xH → Option (Unit × xH)} (hr46 : ∀  (a0 : Nat) (a3 : Nat) (a4 : Nat) (a5 : Int32) (a6 : Int32) (g : xH), S emV kX7_bring h0 46 [(0, .ref a0), (3, .ref a3), (4, .ref a4), (5, .int a5), (6, .int a6)] [] g (r46  a0 a3 a4 a5 a6 g)) : ∀ (k : Nat)  (a0 : Nat) (a3 : Nat) (a4 : Nat) (a5 : Int32) (a6 : Int32) (a7 : Int32) (h : xH), S emV kX7_bring h0 58 [(0, .ref a0), (3, .ref a3), (4, .ref a4), (5, .int a5), (6, .int a6), (7, .int a7)] [] h (fX7_bring_l58 r46 k  a0 a3 a4 a5 a6 a7 h) := by
  intro k
  induction k with
  | zero => intros; exact S_none
  | succ k ih => intro  a0 a3 a4 a5 a6 a7 h; exact pX7_bring_b58 hr46 ih  a0 a3 a4 a5 a6 a7 h
theorem pX7_bring_b46 {h0 : xH} {r46 : Nat → Nat → Nat → Int32 → Int32 → xH → Option (Unit × xH)} (hr46 : ∀  (a0 : Nat) (a3 : Nat) (a4 : Nat) (a5 : Int32) (a6 : Int32) (g : xH), S emV kX7_bring h0 46 [(0, .ref a0), (3, .ref a3), (4, .ref a4), (5, .int a5), (6, .int a6)] [] g (r46  a0 a3 a4 a5 a6 g))  (a0 : Nat) (a3 : Nat) (a4 : Nat) (a5 : Int32) (a6 : Int32) (h : xH) : S emV kX7_bring h0 46 [(0, .ref a0), (3, .ref a3), (4, .ref a4), (5, .int a5), (6, .int a6)] [] h (fX7_bring_b46 r46 a0 a3 a4 a5 a6 h) := by
  unfold fX7_bring_b46
  refine s_iload (pc := 46) (i := 6) 4 rfl (by decide +kernel) ?_
  refine s_aload_n (pc := 48) (k0 := 0) (i := 0) rfl 0 rfl (by decide +kernel) ?_
  refine S_gd (fun c1 => ?_)
  refine s_getI (pc := 49) (k := 4) c1 ft_X7_125 rfl (by decide +kernel) ?_
  refine s_icmp_ge (pc := 52) (off := 71) 123 (by decide +kernel) (by decide) (fun _ => ?_) (fun _ => ?_)
  · exact s_vret (pc := 123) rfl (by decide +kernel)
  · refine s_iconst (pc := 55) (n := 0) (v := (0 : Int32)) (by decide) (by decide +kernel) ?_
    refine s_nmI (fun v2 => ?_)
    refine s_istore (pc := 56) (L' := [(7, .int v2), (0, .ref a0), (3, .ref a3), (4, .ref a4), (5, .int a5), (6, .int a6)]) (i := 7) (by decide) rfl (by decide +kernel) ?_
    refine S_sub [1, 2, 3, 4, 5, 0] rfl ?_
    exact pX7_bring_l58 hr46 FU a0 a3 a4 a5 a6 v2 h
theorem pX7_bring_l46 {h0 : xH}   : ∀ (k : Nat)  (a0 : Nat) (a3 : Nat) (a4 : Nat) (a5 : Int32) (a6 : Int32) (h : xH), S emV kX7_bring h0 46 [(0, .ref a0), (3, .ref a3), (4, .ref a4), (5, .int a5), (6, .int a6)] [] h (fX7_bring_l46  k  a0 a3 a4 a5 a6 h) := by
  intro k
  induction k with
  | zero => intros; exact S_none
  | succ k ih => intro  a0 a3 a4 a5 a6 h; exact pX7_bring_b46 ih  a0 a3 a4 a5 a6 h
theorem pX7_bring_b3 {h0 : xH} {r3 : Nat → Nat → Nat → Nat → Nat → Int32 → Int32 → xH → Option (Unit × xH)} (hr3 : ∀  (a0 : Nat) (a1 : Nat) (a2 : Nat) (a3 : Nat) (a4 : Nat) (a5 : Int32) (a6 : Int32) (g : xH), S emV kX7_bring h0 3 [(0, .ref a0), (1, .ref a1), (2, .ref a2), (3, .ref a3), (4, .ref a4), (5, .int a5), (6, .int a6)] [] g (r3  a0 a1 a2 a3 a4 a5 a6 g))  (a0 : Nat) (a1 : Nat) (a2 : Nat) (a3 : Nat) (a4 : Nat) (a5 : Int32) (a6 : Int32) (h : xH) : S emV kX7_bring h0 3 [(0, .ref a0), (1, .ref a1), (2, .ref a2), (3, .ref a3), (4, .ref a4), (5, .int a5), (6, .int a6)] [] h (fX7_bring_b3 r3 a0 a1 a2 a3 a4 a5 a6 h) := by
  unfold fX7_bring_b3
  refine s_iload (pc := 3) (i := 6) 6 rfl (by decide +kernel) ?_
  refine s_sipush (pc := 5) (n := 222) (v := (222 : Int32)) (by decide) (by decide +kernel) ?_
  refine s_icmp_ge (pc := 8) (off := 27) 35 (by decide +kernel) (by decide) (fun _ => ?_) (fun _ => ?_)
  · refine s_aload_n (pc := 35) (k0 := 0) (i := 0) rfl 0 rfl (by decide +kernel) ?_
    refine s_aload_n (pc := 36) (k0 := 2) (i := 2) rfl 2 rfl (by decide +kernel) ?_
    refine s_iload (pc := 37) (i := 5) 5 rfl (by decide +kernel) ?_
    refine S_gd (fun c1 => ?_)
    refine S_gd (fun c2 => ?_)
    refine s_iald (pc := 39) c1 c2 (by decide +kernel) ?_
    refine S_gd (fun c3 => ?_)
    refine s_putI (pc := 40) (k := 4) c3 ft_X7_125 (fw_7_4 _ _) rfl rfl (by decide +kernel) ?_
    refine s_nmH (o := h) rfl (fun g4 e5 => ?_)
    refine s_iconst (pc := 43) (n := 0) (v := (0 : Int32)) (by decide) (by decide +kernel) ?_
    refine s_nmI (fun v6 => ?_)
    refine s_istore (pc := 44) (L' := [(6, .int v6), (0, .ref a0), (1, .ref a1), (2, .ref a2), (3, .ref a3), (4, .ref a4), (5, .int a5)]) (i := 6) (by decide) rfl (by decide +kernel) ?_
    refine S_sub [1, 4, 5, 6, 0] rfl ?_
    exact pX7_bring_l46 FU a0 a3 a4 a5 v6 g4
  · refine s_aload_n (pc := 11) (k0 := 0) (i := 0) rfl 0 rfl (by decide +kernel) ?_
    refine S_gd (fun c7 => ?_)
    refine s_getR (pc := 12) (k := 3) c7 ft_X7_15 rfl (by decide +kernel) ?_
    refine s_iload (pc := 15) (i := 6) 6 rfl (by decide +kernel) ?_
    refine s_aload_n (pc := 17) (k0 := 1) (i := 1) rfl 1 rfl (by decide +kernel) ?_
    refine s_sipush (pc := 18) (n := 222) (v := (222 : Int32)) (by decide) (by decide +kernel) ?_
    refine s_iload (pc := 21) (i := 5) 5 rfl (by decide +kernel) ?_
    refine s_imul (pc := 23) (by decide +kernel) ?_
    refine s_iload (pc := 24) (i := 6) 6 rfl (by decide +kernel) ?_
    refine s_iadd (pc := 26) (by decide +kernel) ?_
    refine S_gd (fun c8 => ?_)
    refine S_gd (fun c9 => ?_)
    refine s_iald (pc := 27) c8 c9 (by decide +kernel) ?_
    refine S_gd (fun c10 => ?_)
    refine S_gd (fun c11 => ?_)
    refine s_iast (pc := 28) c10 c11 (by decide +kernel) ?_
    refine s_nmH (o := h) rfl (fun g12 e13 => ?_)
    refine s_iinc (pc := 29) (L' := [(6, .int (a6 + (1 : Int32))), (0, .ref a0), (1, .ref a1), (2, .ref a2), (3, .ref a3), (4, .ref a4), (5, .int a5)]) (i := 6) (n := 1) 6 rfl rfl (by decide) rfl (by decide +kernel) ?_
    refine s_nmI0 (e := a6 + (1 : Int32)) (L := fun v14 => [(6, .int v14), (0, .ref a0), (1, .ref a1), (2, .ref a2), (3, .ref a3), (4, .ref a4), (5, .int a5)]) (fun v14 => ?_)
    refine s_goto (pc := 32) (off := -29) 3 (by decide +kernel) (by decide) ?_
    refine S_sub [1, 2, 3, 4, 5, 6, 0] rfl ?_
    exact hr3 a0 a1 a2 a3 a4 a5 v14 g12
theorem pX7_bring_l3 {h0 : xH}   : ∀ (k : Nat)  (a0 : Nat) (a1 : Nat) (a2 : Nat) (a3 : Nat) (a4 : Nat) (a5 : Int32) (a6 : Int32) (h : xH), S emV kX7_bring h0 3 [(0, .ref a0), (1, .ref a1), (2, .ref a2), (3, .ref a3), (4, .ref a4), (5, .int a5), (6, .int a6)] [] h (fX7_bring_l3  k  a0 a1 a2 a3 a4 a5 a6 h) := by
  intro k
  induction k with
  | zero => intros; exact S_none
  | succ k ih => intro  a0 a1 a2 a3 a4 a5 a6 h; exact pX7_bring_b3 ih  a0 a1 a2 a3 a4 a5 a6 h
theorem pX7_bring_e    (a0 : Nat) (a1 : Nat) (a2 : Nat) (a3 : Nat) (a4 : Nat) (a5 : Int32) (h : xH) : S emV kX7_bring h 0 [(0, .ref a0), (1, .ref a1), (2, .ref a2), (3, .ref a3), (4, .ref a4), (5, .int a5)] [] h (fX7_bring  a0 a1 a2 a3 a4 a5 h) := by
  unfold fX7_bring
  refine s_iconst (pc := 0) (n := 0) (v := (0 : Int32)) (by decide) (by decide +kernel) ?_
  refine s_nmI (fun v1 => ?_)
  refine s_istore (pc := 1) (L' := [(6, .int v1), (0, .ref a0), (1, .ref a1), (2, .ref a2), (3, .ref a3), (4, .ref a4), (5, .int a5)]) (i := 6) (by decide) rfl (by decide +kernel) ?_
  refine S_sub [1, 2, 3, 4, 5, 6, 0] rfl ?_
  exact pX7_bring_l3 FU a0 a1 a2 a3 a4 a5 v1 h
theorem tX7_bring (a0 : Nat) (a1 : Nat) (a2 : Nat) (a3 : Nat) (a4 : Nat) (a5 : Int32) (h : xH) : Ct yX7_bring kX7_bring emV [.ref a0, .ref a1, .ref a2, .ref a3, .ref a4, .int a5] h (fX7_bring a0 a1 a2 a3 a4 a5 h) := Ct_of (by decide +kernel) rfl rfl rfl (Nat.le_of_ble_eq_true rfl) rfl (pX7_bring_e a0 a1 a2 a3 a4 a5 h)
def fX7_undo   (a0 : Nat) (h : xH) : Option (Int32 × xH) :=
  if kc h a0 = 7 then
  lt (sI h a0 0 (0 : Int32)) (fun g2 =>
  if (hI g2 a0 12) = 0 then (
  bd (fX7_refuse a0 (-4 : Int32) g2) (fun w19 g17 =>
  some (w19, g17)))
  else (
  lt (sI g2 a0 12 ((hI g2 a0 12) - (1 : Int32))) (fun g5 =>
  if ¬ (8 : Int32) = 0 then
  lt (((hI g5 a0 18) + (hI g5 a0 12)) - ((hI g5 a0 18) + (hI g5 a0 12)) / (8 : Int32) * (8 : Int32)) (fun v8 =>
  bd (fX7_bring a0 (hR g5 a0 7) (hR g5 a0 8) (hR g5 a0 9) (hR g5 a0 10) v8 g5) (fun _ g9 =>
  if kc g9 (hR g9 a0 11) = 8 then
  if ix v8 (kl g9 (hR g9 a0 11)) then
  bd (fX7_tell a0 (hI g9 (hR g9 a0 11) v8.toNatClampNeg) g9) (fun w16 g14 =>
  some (w16, g14))
  else none
  else none))
  else none)))
  else none
theorem pX7_undo_e    (a0 : Nat) (h : xH) : S emI kX7_undo h 0 [(0, .ref a0)] [] h (fX7_undo  a0 h) := by
  unfold fX7_undo
  refine s_aload_n (pc := 0) (k0 := 0) (i := 0) rfl 0 rfl (by decide +kernel) ?_
  refine s_iconst (pc := 1) (n := 0) (v := (0 : Int32)) (by decide) (by decide +kernel) ?_
  refine S_gd (fun c1 => ?_)
  refine s_putI (pc := 2) (k := 0) c1 ft_X7_107 (fw_7_0 _ _) rfl rfl (by decide +kernel) ?_
  refine s_nmH (o := h) rfl (fun g2 e3 => ?_)
  refine s_aload_n (pc := 5) (k0 := 0) (i := 0) rfl 0 rfl (by decide +kernel) ?_
  have c4 := kp e3 c1 (by decide)
  refine s_getI (pc := 6) (k := 12) c4 ft_X7_131 rfl (by decide +kernel) ?_
  refine s_if_ne (pc := 9) (off := 10) 19 (by decide +kernel) (by decide) (fun _ => ?_) (fun _ => ?_)
  · refine s_aload_n (pc := 12) (k0 := 0) (i := 0) rfl 0 rfl (by decide +kernel) ?_
    refine s_bipush (pc := 13) (n := -4) (v := (-4 : Int32)) (by decide) (by decide +kernel) ?_
    refine s_cVi (pc := 15) [.int (-4 : Int32)] (tX7_refuse a0 (-4 : Int32) g2) c4 cw_X7_138 rfl ⟨⟨Nat.le_of_ble_eq_true rfl, Nat.le_of_ble_eq_true rfl⟩, Nat.le_of_ble_eq_true rfl⟩ rfl (by decide +kernel) (fun w19 g17 e18 => ?_)
    exact s_iret (pc := 18) rfl (by decide +kernel)
  · refine s_aload_n (pc := 19) (k0 := 0) (i := 0) rfl 0 rfl (by decide +kernel) ?_
    refine s_dup_a (pc := 20) (by decide +kernel) ?_
    refine s_getI (pc := 21) (k := 12) c4 ft_X7_131 rfl (by decide +kernel) ?_
    refine s_iconst (pc := 24) (n := 1) (v := (1 : Int32)) (by decide) (by decide +kernel) ?_
    refine s_isub (pc := 25) (by decide +kernel) ?_
    refine s_putI (pc := 26) (k := 12) c4 ft_X7_131 (fw_7_12 _ _) rfl rfl (by decide +kernel) ?_
    refine s_nmH (o := g2) rfl (fun g5 e6 => ?_)
    refine s_aload_n (pc := 29) (k0 := 0) (i := 0) rfl 0 rfl (by decide +kernel) ?_
    have c7 := kp e6 c4 (by decide)
    refine s_getI (pc := 30) (k := 18) c7 ft_X7_128 rfl (by decide +kernel) ?_
    refine s_aload_n (pc := 33) (k0 := 0) (i := 0) rfl 0 rfl (by decide +kernel) ?_
    refine s_getI (pc := 34) (k := 12) c7 ft_X7_131 rfl (by decide +kernel) ?_
    refine s_iadd (pc := 37) (by decide +kernel) ?_
    refine s_bipush (pc := 38) (n := 8) (v := (8 : Int32)) (by decide) (by decide +kernel) ?_
    refine s_irem (pc := 40) (by decide +kernel) ?_
    refine s_nmI (fun v8 => ?_)
    refine s_istore_n (pc := 41) (L' := [(1, .int v8), (0, .ref a0)]) (k0 := 1) (i := 1) rfl (by decide) rfl (by decide +kernel) ?_
    refine s_aload_n (pc := 42) (k0 := 0) (i := 0) rfl 1 rfl (by decide +kernel) ?_
    refine s_aload_n (pc := 43) (k0 := 0) (i := 0) rfl 1 rfl (by decide +kernel) ?_
    refine s_getR (pc := 44) (k := 7) c7 ft_X7_26 rfl (by decide +kernel) ?_
    refine s_aload_n (pc := 47) (k0 := 0) (i := 0) rfl 1 rfl (by decide +kernel) ?_
    refine s_getR (pc := 48) (k := 8) c7 ft_X7_29 rfl (by decide +kernel) ?_
    refine s_aload_n (pc := 51) (k0 := 0) (i := 0) rfl 1 rfl (by decide +kernel) ?_
    refine s_getR (pc := 52) (k := 9) c7 ft_X7_33 rfl (by decide +kernel) ?_
    refine s_aload_n (pc := 55) (k0 := 0) (i := 0) rfl 1 rfl (by decide +kernel) ?_
    refine s_getR (pc := 56) (k := 10) c7 ft_X7_36 rfl (by decide +kernel) ?_
    refine s_iload_n (pc := 59) (k0 := 1) (i := 1) rfl 0 rfl (by decide +kernel) ?_
    refine s_cVv (pc := 60) [.ref (hR g5 a0 7), .ref (hR g5 a0 8), .ref (hR g5 a0 9), .ref (hR g5 a0 10), .int v8] (tX7_bring a0 (hR g5 a0 7) (hR g5 a0 8) (hR g5 a0 9) (hR g5 a0 10) v8 g5) c7 cw_X7_142 rfl ⟨⟨Nat.le_of_ble_eq_true rfl, Nat.le_of_ble_eq_true rfl⟩, Nat.le_of_ble_eq_true rfl⟩ rfl (by decide +kernel) (fun _ g9 e10 => ?_)
    refine s_aload_n (pc := 63) (k0 := 0) (i := 0) rfl 1 rfl (by decide +kernel) ?_
    refine s_aload_n (pc := 64) (k0 := 0) (i := 0) rfl 1 rfl (by decide +kernel) ?_
    have c11 := kp e10 c7 (by decide)
    refine s_getR (pc := 65) (k := 11) c11 ft_X7_39 rfl (by decide +kernel) ?_
    refine s_iload_n (pc := 68) (k0 := 1) (i := 1) rfl 0 rfl (by decide +kernel) ?_
    refine S_gd (fun c12 => ?_)
    refine S_gd (fun c13 => ?_)
    refine s_iald (pc := 69) c12 c13 (by decide +kernel) ?_
    refine s_cVi (pc := 70) [.int (hI g9 (hR g9 a0 11) v8.toNatClampNeg)] (tX7_tell a0 (hI g9 (hR g9 a0 11) v8.toNatClampNeg) g9) c11 cw_X7_145 rfl ⟨⟨Nat.le_of_ble_eq_true rfl, Nat.le_of_ble_eq_true rfl⟩, Nat.le_of_ble_eq_true rfl⟩ rfl (by decide +kernel) (fun w16 g14 e15 => ?_)
    exact s_iret (pc := 73) rfl (by decide +kernel)
theorem tX7_undo (a0 : Nat) (h : xH) : Ct yX7_undo kX7_undo emI [.ref a0] h (fX7_undo a0 h) := Ct_of (by decide +kernel) rfl rfl rfl (Nat.le_of_ble_eq_true rfl) rfl (pX7_undo_e a0 h)
def fX7_knots_b4 (r4 : Nat → Int32 → Int32 → xH → Option (Int32 × xH))  (a0 : Nat) (a1 : Int32) (a2 : Int32) (h : xH) : Option (Int32 × xH) :=
  if (6 : Int32) ≤ a2 then (
  some (a1, h))
  else (
  if kc h a0 = 7 then
  if kc h (hR h a0 3) = 8 then
  if ix ((37 : Int32) * a2) (kl h (hR h a0 3)) then
  lt (a1 + (hI h (hR h a0 3) ((37 : Int32) * a2).toNatClampNeg)) (fun v4 =>
  lt (a2 + (1 : Int32)) (fun v5 =>
  r4 a0 v4 v5 h))
  else none
  else none
  else none)
def fX7_knots_l4  : Nat → Nat → Int32 → Int32 → xH → Option (Int32 × xH)
  | 0 => fun _ _ _ _ => none
  | k + 1 => fX7_knots_b4 (fX7_knots_l4  k)
def fX7_knots   (a0 : Nat) (h : xH) : Option (Int32 × xH) :=
  lt (0 : Int32) (fun v1 =>
  lt (0 : Int32) (fun v2 =>
  fX7_knots_l4 FU a0 v1 v2 h))
theorem pX7_knots_b4 {h0 : xH} {r4 : Nat → Int32 → Int32 → xH → Option (Int32 × xH)} (hr4 : ∀  (a0 : Nat) (a1 : Int32) (a2 : Int32) (g : xH), S emI kX7_knots h0 4 [(0, .ref a0), (1, .int a1), (2, .int a2)] [] g (r4  a0 a1 a2 g))  (a0 : Nat) (a1 : Int32) (a2 : Int32) (h : xH) : S emI kX7_knots h0 4 [(0, .ref a0), (1, .int a1), (2, .int a2)] [] h (fX7_knots_b4 r4 a0 a1 a2 h) := by
  unfold fX7_knots_b4
  refine s_iload_n (pc := 4) (k0 := 2) (i := 2) rfl 2 rfl (by decide +kernel) ?_
  refine s_bipush (pc := 5) (n := 6) (v := (6 : Int32)) (by decide) (by decide +kernel) ?_
  refine s_icmp_ge (pc := 7) (off := 21) 28 (by decide +kernel) (by decide) (fun _ => ?_) (fun _ => ?_)
  · refine s_iload_n (pc := 28) (k0 := 1) (i := 1) rfl 1 rfl (by decide +kernel) ?_
    exact s_iret (pc := 29) rfl (by decide +kernel)
  · refine s_iload_n (pc := 10) (k0 := 1) (i := 1) rfl 1 rfl (by decide +kernel) ?_
    refine s_aload_n (pc := 11) (k0 := 0) (i := 0) rfl 0 rfl (by decide +kernel) ?_
    refine S_gd (fun c1 => ?_)
    refine s_getR (pc := 12) (k := 3) c1 ft_X7_15 rfl (by decide +kernel) ?_
    refine s_bipush (pc := 15) (n := 37) (v := (37 : Int32)) (by decide) (by decide +kernel) ?_
    refine s_iload_n (pc := 17) (k0 := 2) (i := 2) rfl 2 rfl (by decide +kernel) ?_
    refine s_imul (pc := 18) (by decide +kernel) ?_
    refine S_gd (fun c2 => ?_)
    refine S_gd (fun c3 => ?_)
    refine s_iald (pc := 19) c2 c3 (by decide +kernel) ?_
    refine s_iadd (pc := 20) (by decide +kernel) ?_
    refine s_nmI (fun v4 => ?_)
    refine s_istore_n (pc := 21) (L' := [(1, .int v4), (0, .ref a0), (2, .int a2)]) (k0 := 1) (i := 1) rfl (by decide) rfl (by decide +kernel) ?_
    refine s_iinc (pc := 22) (L' := [(2, .int (a2 + (1 : Int32))), (1, .int v4), (0, .ref a0)]) (i := 2) (n := 1) 2 rfl rfl (by decide) rfl (by decide +kernel) ?_
    refine s_nmI0 (e := a2 + (1 : Int32)) (L := fun v5 => [(2, .int v5), (1, .int v4), (0, .ref a0)]) (fun v5 => ?_)
    refine s_goto (pc := 25) (off := -21) 4 (by decide +kernel) (by decide) ?_
    refine S_sub [2, 1, 0] rfl ?_
    exact hr4 a0 v4 v5 h
theorem pX7_knots_l4 {h0 : xH}   : ∀ (k : Nat)  (a0 : Nat) (a1 : Int32) (a2 : Int32) (h : xH), S emI kX7_knots h0 4 [(0, .ref a0), (1, .int a1), (2, .int a2)] [] h (fX7_knots_l4  k  a0 a1 a2 h) := by
  intro k
  induction k with
  | zero => intros; exact S_none
  | succ k ih => intro  a0 a1 a2 h; exact pX7_knots_b4 ih  a0 a1 a2 h
theorem pX7_knots_e    (a0 : Nat) (h : xH) : S emI kX7_knots h 0 [(0, .ref a0)] [] h (fX7_knots  a0 h) := by
  unfold fX7_knots
  refine s_iconst (pc := 0) (n := 0) (v := (0 : Int32)) (by decide) (by decide +kernel) ?_
  refine s_nmI (fun v1 => ?_)
  refine s_istore_n (pc := 1) (L' := [(1, .int v1), (0, .ref a0)]) (k0 := 1) (i := 1) rfl (by decide) rfl (by decide +kernel) ?_
  refine s_iconst (pc := 2) (n := 0) (v := (0 : Int32)) (by decide) (by decide +kernel) ?_
  refine s_nmI (fun v2 => ?_)
  refine s_istore_n (pc := 3) (L' := [(2, .int v2), (1, .int v1), (0, .ref a0)]) (k0 := 2) (i := 2) rfl (by decide) rfl (by decide +kernel) ?_
  refine S_sub [2, 1, 0] rfl ?_
  exact pX7_knots_l4 FU a0 v1 v2 h
theorem tX7_knots (a0 : Nat) (h : xH) : Ct yX7_knots kX7_knots emI [.ref a0] h (fX7_knots a0 h) := Ct_of (by decide +kernel) rfl rfl rfl (Nat.le_of_ble_eq_true rfl) rfl (pX7_knots_e a0 h)
def fX7_image   (a0 : Nat) (a1 : Int32) (h : xH) : Option (Int32 × xH) :=
  if kc h a0 = 7 then
  lt (sI h a0 0 (0 : Int32)) (fun g2 =>
  bd (fX7_in a1.toInt64 (0 : Int64) (1 : Int64) g2) (fun w6 g4 =>
  if w6 = 0 then (
  bd (fX7_refuse a0 (-1 : Int32) g4) (fun w26 g24 =>
  some (w26, g24)))
  else (
  bd (fX7_lay a0 (hR g4 a0 13) (hR g4 a0 14) (hR g4 a0 15) (hR g4 a0 16) a1 g4) (fun _ g8 =>
  if kc g8 (hR g8 a0 17) = 10 then
  if ix a1 (kl g8 (hR g8 a0 17)) then
  lt (sI g8 (hR g8 a0 17) a1.toNatClampNeg (1 : Int32)) (fun g13 =>
  bd (fX7_knots a0 g13) (fun w18 g16 =>
  bd (fX7_tell a0 w18 g16) (fun w22 g20 =>
  some (w22, g20))))
  else none
  else none))))
  else none
theorem pX7_image_e    (a0 : Nat) (a1 : Int32) (h : xH) : S emI kX7_image h 0 [(0, .ref a0), (1, .int a1)] [] h (fX7_image  a0 a1 h) := by
  unfold fX7_image
  refine s_aload_n (pc := 0) (k0 := 0) (i := 0) rfl 0 rfl (by decide +kernel) ?_
  refine s_iconst (pc := 1) (n := 0) (v := (0 : Int32)) (by decide) (by decide +kernel) ?_
  refine S_gd (fun c1 => ?_)
  refine s_putI (pc := 2) (k := 0) c1 ft_X7_107 (fw_7_0 _ _) rfl rfl (by decide +kernel) ?_
  refine s_nmH (o := h) rfl (fun g2 e3 => ?_)
  refine s_iload_n (pc := 5) (k0 := 1) (i := 1) rfl 1 rfl (by decide +kernel) ?_
  refine s_i2l (pc := 6) (by decide +kernel) ?_
  refine s_lconst (pc := 7) (n := 0) (v := (0 : Int64)) (by decide) (by decide +kernel) ?_
  refine s_lconst (pc := 8) (n := 1) (v := (1 : Int64)) (by decide) (by decide +kernel) ?_
  refine s_cSi (pc := 9) [.long a1.toInt64, .long (0 : Int64), .long (1 : Int64)] (tX7_in a1.toInt64 (0 : Int64) (1 : Int64) g2) cw_X7_114 rfl ⟨⟨Nat.le_of_ble_eq_true rfl, Nat.le_of_ble_eq_true rfl⟩, Nat.le_of_ble_eq_true rfl⟩ rfl (by decide +kernel) (fun w6 g4 e5 => ?_)
  refine s_if_ne (pc := 12) (off := 9) 21 (by decide +kernel) (by decide) (fun _ => ?_) (fun _ => ?_)
  · refine s_aload_n (pc := 15) (k0 := 0) (i := 0) rfl 0 rfl (by decide +kernel) ?_
    refine s_iconst (pc := 16) (n := -1) (v := (-1 : Int32)) (by decide) (by decide +kernel) ?_
    have c23 := kp (Le.tr e3 e5) c1 (by decide)
    refine s_cVi (pc := 17) [.int (-1 : Int32)] (tX7_refuse a0 (-1 : Int32) g4) c23 cw_X7_138 rfl ⟨⟨Nat.le_of_ble_eq_true rfl, Nat.le_of_ble_eq_true rfl⟩, Nat.le_of_ble_eq_true rfl⟩ rfl (by decide +kernel) (fun w26 g24 e25 => ?_)
    exact s_iret (pc := 20) rfl (by decide +kernel)
  · refine s_aload_n (pc := 21) (k0 := 0) (i := 0) rfl 0 rfl (by decide +kernel) ?_
    refine s_aload_n (pc := 22) (k0 := 0) (i := 0) rfl 0 rfl (by decide +kernel) ?_
    have c7 := kp (Le.tr e3 e5) c1 (by decide)
    refine s_getR (pc := 23) (k := 13) c7 ft_X7_42 rfl (by decide +kernel) ?_
    refine s_aload_n (pc := 26) (k0 := 0) (i := 0) rfl 0 rfl (by decide +kernel) ?_
    refine s_getR (pc := 27) (k := 14) c7 ft_X7_45 rfl (by decide +kernel) ?_
    refine s_aload_n (pc := 30) (k0 := 0) (i := 0) rfl 0 rfl (by decide +kernel) ?_
    refine s_getR (pc := 31) (k := 15) c7 ft_X7_48 rfl (by decide +kernel) ?_
    refine s_aload_n (pc := 34) (k0 := 0) (i := 0) rfl 0 rfl (by decide +kernel) ?_
    refine s_getR (pc := 35) (k := 16) c7 ft_X7_51 rfl (by decide +kernel) ?_
    refine s_iload_n (pc := 38) (k0 := 1) (i := 1) rfl 1 rfl (by decide +kernel) ?_
    refine s_cVv (pc := 39) [.ref (hR g4 a0 13), .ref (hR g4 a0 14), .ref (hR g4 a0 15), .ref (hR g4 a0 16), .int a1] (tX7_lay a0 (hR g4 a0 13) (hR g4 a0 14) (hR g4 a0 15) (hR g4 a0 16) a1 g4) c7 cw_X7_134 rfl ⟨⟨Nat.le_of_ble_eq_true rfl, Nat.le_of_ble_eq_true rfl⟩, Nat.le_of_ble_eq_true rfl⟩ rfl (by decide +kernel) (fun _ g8 e9 => ?_)
    refine s_aload_n (pc := 42) (k0 := 0) (i := 0) rfl 0 rfl (by decide +kernel) ?_
    have c10 := kp e9 c7 (by decide)
    refine s_getR (pc := 43) (k := 17) c10 ft_X7_54 rfl (by decide +kernel) ?_
    refine s_iload_n (pc := 46) (k0 := 1) (i := 1) rfl 1 rfl (by decide +kernel) ?_
    refine s_iconst (pc := 47) (n := 1) (v := (1 : Int32)) (by decide) (by decide +kernel) ?_
    refine S_gd (fun c11 => ?_)
    refine S_gd (fun c12 => ?_)
    refine s_zast (pc := 48) (by decide) c11 c12 (by decide +kernel) ?_
    refine s_nmH (o := g8) rfl (fun g13 e14 => ?_)
    refine s_aload_n (pc := 49) (k0 := 0) (i := 0) rfl 0 rfl (by decide +kernel) ?_
    refine s_aload_n (pc := 50) (k0 := 0) (i := 0) rfl 0 rfl (by decide +kernel) ?_
    have c15 := kp e14 c10 (by decide)
    refine s_cVi (pc := 51) [] (tX7_knots a0 g13) c15 cw_X7_148 rfl ⟨⟨Nat.le_of_ble_eq_true rfl, Nat.le_of_ble_eq_true rfl⟩, Nat.le_of_ble_eq_true rfl⟩ rfl (by decide +kernel) (fun w18 g16 e17 => ?_)
    have c19 := kp e17 c15 (by decide)
    refine s_cVi (pc := 54) [.int w18] (tX7_tell a0 w18 g16) c19 cw_X7_145 rfl ⟨⟨Nat.le_of_ble_eq_true rfl, Nat.le_of_ble_eq_true rfl⟩, Nat.le_of_ble_eq_true rfl⟩ rfl (by decide +kernel) (fun w22 g20 e21 => ?_)
    exact s_iret (pc := 57) rfl (by decide +kernel)
theorem tX7_image (a0 : Nat) (a1 : Int32) (h : xH) : Ct yX7_image kX7_image emI [.ref a0, .int a1] h (fX7_image a0 a1 h) := Ct_of (by decide +kernel) rfl rfl rfl (Nat.le_of_ble_eq_true rfl) rfl (pX7_image_e a0 a1 h)
def fX7_back   (a0 : Nat) (a1 : Int32) (h : xH) : Option (Int32 × xH) :=
  if kc h a0 = 7 then
  lt (sI h a0 0 (0 : Int32)) (fun g2 =>
  bd (fX7_in a1.toInt64 (0 : Int64) (1 : Int64) g2) (fun w6 g4 =>
  if w6 = 0 then (
  bd (fX7_refuse a0 (-1 : Int32) g4) (fun w29 g27 =>
  some (w29, g27)))
  else (
  if kc g4 (hR g4 a0 17) = 10 then
  if ix a1 (kl g4 (hR g4 a0 17)) then
  if (hI g4 (hR g4 a0 17) a1.toNatClampNeg) = 0 then (
  bd (fX7_refuse a0 (-2 : Int32) g4) (fun w25 g23 =>
  some (w25, g23)))
  else (
  bd (fX7_bring a0 (hR g4 a0 13) (hR g4 a0 14) (hR g4 a0 15) (hR g4 a0 16) a1 g4) (fun _ g10 =>
  lt (sI g10 a0 12 (0 : Int32)) (fun g13 =>
  bd (fX7_knots a0 g13) (fun w18 g16 =>
  bd (fX7_tell a0 w18 g16) (fun w22 g20 =>
  some (w22, g20))))))
  else none
  else none)))
  else none
theorem pX7_back_e    (a0 : Nat) (a1 : Int32) (h : xH) : S emI kX7_back h 0 [(0, .ref a0), (1, .int a1)] [] h (fX7_back  a0 a1 h) := by
  unfold fX7_back
  refine s_aload_n (pc := 0) (k0 := 0) (i := 0) rfl 0 rfl (by decide +kernel) ?_
  refine s_iconst (pc := 1) (n := 0) (v := (0 : Int32)) (by decide) (by decide +kernel) ?_
  refine S_gd (fun c1 => ?_)
  refine s_putI (pc := 2) (k := 0) c1 ft_X7_107 (fw_7_0 _ _) rfl rfl (by decide +kernel) ?_
  refine s_nmH (o := h) rfl (fun g2 e3 => ?_)
  refine s_iload_n (pc := 5) (k0 := 1) (i := 1) rfl 1 rfl (by decide +kernel) ?_
  refine s_i2l (pc := 6) (by decide +kernel) ?_
  refine s_lconst (pc := 7) (n := 0) (v := (0 : Int64)) (by decide) (by decide +kernel) ?_
  refine s_lconst (pc := 8) (n := 1) (v := (1 : Int64)) (by decide) (by decide +kernel) ?_
  refine s_cSi (pc := 9) [.long a1.toInt64, .long (0 : Int64), .long (1 : Int64)] (tX7_in a1.toInt64 (0 : Int64) (1 : Int64) g2) cw_X7_114 rfl ⟨⟨Nat.le_of_ble_eq_true rfl, Nat.le_of_ble_eq_true rfl⟩, Nat.le_of_ble_eq_true rfl⟩ rfl (by decide +kernel) (fun w6 g4 e5 => ?_)
  refine s_if_ne (pc := 12) (off := 9) 21 (by decide +kernel) (by decide) (fun _ => ?_) (fun _ => ?_)
  · refine s_aload_n (pc := 15) (k0 := 0) (i := 0) rfl 0 rfl (by decide +kernel) ?_
    refine s_iconst (pc := 16) (n := -1) (v := (-1 : Int32)) (by decide) (by decide +kernel) ?_
    have c26 := kp (Le.tr e3 e5) c1 (by decide)
    refine s_cVi (pc := 17) [.int (-1 : Int32)] (tX7_refuse a0 (-1 : Int32) g4) c26 cw_X7_138 rfl ⟨⟨Nat.le_of_ble_eq_true rfl, Nat.le_of_ble_eq_true rfl⟩, Nat.le_of_ble_eq_true rfl⟩ rfl (by decide +kernel) (fun w29 g27 e28 => ?_)
    exact s_iret (pc := 20) rfl (by decide +kernel)
  · refine s_aload_n (pc := 21) (k0 := 0) (i := 0) rfl 0 rfl (by decide +kernel) ?_
    have c7 := kp (Le.tr e3 e5) c1 (by decide)
    refine s_getR (pc := 22) (k := 17) c7 ft_X7_54 rfl (by decide +kernel) ?_
    refine s_iload_n (pc := 25) (k0 := 1) (i := 1) rfl 1 rfl (by decide +kernel) ?_
    refine S_gd (fun c8 => ?_)
    refine S_gd (fun c9 => ?_)
    refine s_zald (pc := 26) c8 c9 (by decide +kernel) ?_
    refine s_if_ne (pc := 27) (off := 10) 37 (by decide +kernel) (by decide) (fun _ => ?_) (fun _ => ?_)
    · refine s_aload_n (pc := 30) (k0 := 0) (i := 0) rfl 0 rfl (by decide +kernel) ?_
      refine s_bipush (pc := 31) (n := -2) (v := (-2 : Int32)) (by decide) (by decide +kernel) ?_
      refine s_cVi (pc := 33) [.int (-2 : Int32)] (tX7_refuse a0 (-2 : Int32) g4) c7 cw_X7_138 rfl ⟨⟨Nat.le_of_ble_eq_true rfl, Nat.le_of_ble_eq_true rfl⟩, Nat.le_of_ble_eq_true rfl⟩ rfl (by decide +kernel) (fun w25 g23 e24 => ?_)
      exact s_iret (pc := 36) rfl (by decide +kernel)
    · refine s_aload_n (pc := 37) (k0 := 0) (i := 0) rfl 0 rfl (by decide +kernel) ?_
      refine s_aload_n (pc := 38) (k0 := 0) (i := 0) rfl 0 rfl (by decide +kernel) ?_
      refine s_getR (pc := 39) (k := 13) c7 ft_X7_42 rfl (by decide +kernel) ?_
      refine s_aload_n (pc := 42) (k0 := 0) (i := 0) rfl 0 rfl (by decide +kernel) ?_
      refine s_getR (pc := 43) (k := 14) c7 ft_X7_45 rfl (by decide +kernel) ?_
      refine s_aload_n (pc := 46) (k0 := 0) (i := 0) rfl 0 rfl (by decide +kernel) ?_
      refine s_getR (pc := 47) (k := 15) c7 ft_X7_48 rfl (by decide +kernel) ?_
      refine s_aload_n (pc := 50) (k0 := 0) (i := 0) rfl 0 rfl (by decide +kernel) ?_
      refine s_getR (pc := 51) (k := 16) c7 ft_X7_51 rfl (by decide +kernel) ?_
      refine s_iload_n (pc := 54) (k0 := 1) (i := 1) rfl 1 rfl (by decide +kernel) ?_
      refine s_cVv (pc := 55) [.ref (hR g4 a0 13), .ref (hR g4 a0 14), .ref (hR g4 a0 15), .ref (hR g4 a0 16), .int a1] (tX7_bring a0 (hR g4 a0 13) (hR g4 a0 14) (hR g4 a0 15) (hR g4 a0 16) a1 g4) c7 cw_X7_142 rfl ⟨⟨Nat.le_of_ble_eq_true rfl, Nat.le_of_ble_eq_true rfl⟩, Nat.le_of_ble_eq_true rfl⟩ rfl (by decide +kernel) (fun _ g10 e11 => ?_)
      refine s_aload_n (pc := 58) (k0 := 0) (i := 0) rfl 0 rfl (by decide +kernel) ?_
      refine s_iconst (pc := 59) (n := 0) (v := (0 : Int32)) (by decide) (by decide +kernel) ?_
      have c12 := kp e11 c7 (by decide)
      refine s_putI (pc := 60) (k := 12) c12 ft_X7_131 (fw_7_12 _ _) rfl rfl (by decide +kernel) ?_
      refine s_nmH (o := g10) rfl (fun g13 e14 => ?_)
      refine s_aload_n (pc := 63) (k0 := 0) (i := 0) rfl 0 rfl (by decide +kernel) ?_
      refine s_aload_n (pc := 64) (k0 := 0) (i := 0) rfl 0 rfl (by decide +kernel) ?_
      have c15 := kp e14 c12 (by decide)
      refine s_cVi (pc := 65) [] (tX7_knots a0 g13) c15 cw_X7_148 rfl ⟨⟨Nat.le_of_ble_eq_true rfl, Nat.le_of_ble_eq_true rfl⟩, Nat.le_of_ble_eq_true rfl⟩ rfl (by decide +kernel) (fun w18 g16 e17 => ?_)
      have c19 := kp e17 c15 (by decide)
      refine s_cVi (pc := 68) [.int w18] (tX7_tell a0 w18 g16) c19 cw_X7_145 rfl ⟨⟨Nat.le_of_ble_eq_true rfl, Nat.le_of_ble_eq_true rfl⟩, Nat.le_of_ble_eq_true rfl⟩ rfl (by decide +kernel) (fun w22 g20 e21 => ?_)
      exact s_iret (pc := 71) rfl (by decide +kernel)
theorem tX7_back (a0 : Nat) (a1 : Int32) (h : xH) : Ct yX7_back kX7_back emI [.ref a0, .int a1] h (fX7_back a0 a1 h) := Ct_of (by decide +kernel) rfl rfl rfl (Nat.le_of_ble_eq_true rfl) rfl (pX7_back_e a0 a1 h)
def fX7_part_b12  (s0 : Int64) (a0 : Int64) (a2 : Int64) (h : xH) : Option (Int64 × xH) :=
  bd (fX7_common a0 a2 h) (fun w3 g1 =>
  if ¬ w3 = 0 then
  some ((s0 / w3), g1)
  else none)
def fX7_part   (a0 : Int64) (a2 : Int64) (a4 : Int32) (h : xH) : Option (Int64 × xH) :=
  if ¬ (2 : Int32) = 0 then
  if (a4 - a4 / (2 : Int32) * (2 : Int32)) = 0 then (
  fX7_part_b12 a0 a0 a2 h)
  else (
  fX7_part_b12 a2 a0 a2 h)
  else none
theorem pX7_part_b12 {h0 : xH}   (s0 : Int64) (a0 : Int64) (a2 : Int64) (h : xH) : S emJ kX7_part h0 12 [(0, .long a0), (2, .long a2)] [.long s0] h (fX7_part_b12 s0 a0 a2 h) := by
  unfold fX7_part_b12
  refine s_lload_n (pc := 12) (k0 := 0) (i := 0) rfl 0 rfl (by decide +kernel) ?_
  refine s_lload_n (pc := 13) (k0 := 2) (i := 2) rfl 1 rfl (by decide +kernel) ?_
  refine s_cSj (pc := 14) [.long a0, .long a2] (tX7_common a0 a2 h) cw_X7_204 rfl ⟨⟨Nat.le_of_ble_eq_true rfl, Nat.le_of_ble_eq_true rfl⟩, Nat.le_of_ble_eq_true rfl⟩ rfl (by decide +kernel) (fun w3 g1 e2 => ?_)
  refine s_ldiv (pc := 17) (by decide +kernel) ?_
  exact s_lret (pc := 18) rfl (by decide +kernel)
theorem pX7_part_e    (a0 : Int64) (a2 : Int64) (a4 : Int32) (h : xH) : S emJ kX7_part h 0 [(0, .long a0), (2, .long a2), (4, .int a4)] [] h (fX7_part  a0 a2 a4 h) := by
  unfold fX7_part
  refine s_iload (pc := 0) (i := 4) 2 rfl (by decide +kernel) ?_
  refine s_iconst (pc := 2) (n := 2) (v := (2 : Int32)) (by decide) (by decide +kernel) ?_
  refine s_irem (pc := 3) (by decide +kernel) ?_
  refine s_if_ne (pc := 4) (off := 7) 11 (by decide +kernel) (by decide) (fun _ => ?_) (fun _ => ?_)
  · refine s_lload_n (pc := 7) (k0 := 0) (i := 0) rfl 0 rfl (by decide +kernel) ?_
    refine s_goto (pc := 8) (off := 4) 12 (by decide +kernel) (by decide) ?_
    refine S_sub [0, 1] rfl ?_
    exact pX7_part_b12 a0 a0 a2 h
  · refine s_lload_n (pc := 11) (k0 := 2) (i := 2) rfl 1 rfl (by decide +kernel) ?_
    refine S_sub [0, 1] rfl ?_
    exact pX7_part_b12 a2 a0 a2 h
theorem tX7_part (a0 : Int64) (a2 : Int64) (a4 : Int32) (h : xH) : Ct yX7_part kX7_part emJ [.long a0, .long a2, .int a4] h (fX7_part a0 a2 a4 h) := Ct_of (by decide +kernel) rfl rfl rfl (Nat.le_of_ble_eq_true rfl) rfl (pX7_part_e a0 a2 a4 h)
def fX7_paper_b70  (s0 : Int32) (s1 : Int32) (a0 : Nat) (a2 : Int32) (h : xH) : Option (Int64 × xH) :=
  lt (s1 + s0) (fun v1 =>
  if kc h a0 = 7 then
  if kc h (hR h a0 5) = 9 then
  if ix v1 (kl h (hR h a0 5)) then
  lt (hJ h (hR h a0 5) v1.toNatClampNeg) (fun v5 =>
  bd (fX7_common v5 (60 : Int64) h) (fun w8 g6 =>
  if ¬ w8 = 0 then
  if kc g6 (hR g6 a0 5) = 9 then
  if ix (v1 + (1 : Int32)) (kl g6 (hR g6 a0 5)) then
  if ¬ w8 = 0 then
  bd (fX7_part (v5 / w8) ((hJ g6 (hR g6 a0 5) (v1 + (1 : Int32)).toNatClampNeg) * ((60 : Int64) / w8)) a2 g6) (fun w14 g12 =>
  some (w14, g12))
  else none
  else none
  else none
  else none))
  else none
  else none
  else none)
def fX7_paper   (a0 : Nat) (a1 : Int32) (a2 : Int32) (h : xH) : Option (Int64 × xH) :=
  if kc h a0 = 7 then
  lt (sI h a0 0 (0 : Int32)) (fun g2 =>
  bd (fX7_in a1.toInt64 (0 : Int64) (((hI g2 a0 4).toInt64) - (1 : Int64)) g2) (fun w7 g5 =>
  if w7 = 0 then (
  some ((-9223372036854775808 : Int64), g5))
  else (
  bd (fX7_in a2.toInt64 (0 : Int64) (4 : Int64) g5) (fun w10 g8 =>
  if w10 = 0 then (
  some ((-9223372036854775808 : Int64), g8))
  else (
  if a2 = (4 : Int32) then (
  if kc g8 (hR g8 a0 6) = 10 then
  if ix a1 (kl g8 (hR g8 a0 6)) then
  if (hI g8 (hR g8 a0 6) a1.toNatClampNeg) = 0 then (
  some ((0 : Int64), g8))
  else (
  some ((1 : Int64), g8))
  else none
  else none)
  else (
  if (2 : Int32) ≤ a2 then (
  fX7_paper_b70 (2 : Int32) ((4 : Int32) * a1) a0 a2 g8)
  else (
  fX7_paper_b70 (0 : Int32) ((4 : Int32) * a1) a0 a2 g8)))))))
  else none
theorem pX7_paper_b70 {h0 : xH}   (s0 : Int32) (s1 : Int32) (a0 : Nat) (a2 : Int32) (h : xH) : S emJ kX7_paper h0 70 [(0, .ref a0), (2, .int a2)] [.int s0, .int s1] h (fX7_paper_b70 s0 s1 a0 a2 h) := by
  unfold fX7_paper_b70
  refine s_iadd (pc := 70) (by decide +kernel) ?_
  refine s_nmI (fun v1 => ?_)
  refine s_istore_n (pc := 71) (L' := [(3, .int v1), (0, .ref a0), (2, .int a2)]) (k0 := 3) (i := 3) rfl (by decide) rfl (by decide +kernel) ?_
  refine s_aload_n (pc := 72) (k0 := 0) (i := 0) rfl 1 rfl (by decide +kernel) ?_
  refine S_gd (fun c2 => ?_)
  refine s_getR (pc := 73) (k := 5) c2 ft_X7_18 rfl (by decide +kernel) ?_
  refine s_iload_n (pc := 76) (k0 := 3) (i := 3) rfl 0 rfl (by decide +kernel) ?_
  refine S_gd (fun c3 => ?_)
  refine S_gd (fun c4 => ?_)
  refine s_lald (pc := 77) c3 c4 (by decide +kernel) ?_
  refine s_nmJ (fun v5 => ?_)
  refine s_lstore (pc := 78) (L' := [(4, .long v5), (3, .int v1), (0, .ref a0), (2, .int a2)]) (i := 4) (by decide) rfl (by decide +kernel) ?_
  refine s_lload (pc := 80) (i := 4) 0 rfl (by decide +kernel) ?_
  refine s_ldc2 (pc := 82) (v := (60 : Int64)) (index := 274) (gd_of 1214 (by decide +kernel) rfl) (by decide +kernel) ?_
  refine s_cSj (pc := 85) [.long v5, .long (60 : Int64)] (tX7_common v5 (60 : Int64) h) cw_X7_204 rfl ⟨⟨Nat.le_of_ble_eq_true rfl, Nat.le_of_ble_eq_true rfl⟩, Nat.le_of_ble_eq_true rfl⟩ rfl (by decide +kernel) (fun w8 g6 e7 => ?_)
  refine s_lstore (pc := 88) (L' := [(6, .long w8), (4, .long v5), (3, .int v1), (0, .ref a0), (2, .int a2)]) (i := 6) (by decide) rfl (by decide +kernel) ?_
  refine s_lload (pc := 90) (i := 4) 1 rfl (by decide +kernel) ?_
  refine s_lload (pc := 92) (i := 6) 0 rfl (by decide +kernel) ?_
  refine s_ldiv (pc := 94) (by decide +kernel) ?_
  refine s_aload_n (pc := 95) (k0 := 0) (i := 0) rfl 3 rfl (by decide +kernel) ?_
  have c9 := kp e7 c2 (by decide)
  refine s_getR (pc := 96) (k := 5) c9 ft_X7_18 rfl (by decide +kernel) ?_
  refine s_iload_n (pc := 99) (k0 := 3) (i := 3) rfl 2 rfl (by decide +kernel) ?_
  refine s_iconst (pc := 100) (n := 1) (v := (1 : Int32)) (by decide) (by decide +kernel) ?_
  refine s_iadd (pc := 101) (by decide +kernel) ?_
  refine S_gd (fun c10 => ?_)
  refine S_gd (fun c11 => ?_)
  refine s_lald (pc := 102) c10 c11 (by decide +kernel) ?_
  refine s_ldc2 (pc := 103) (v := (60 : Int64)) (index := 274) (gd_of 1214 (by decide +kernel) rfl) (by decide +kernel) ?_
  refine s_lload (pc := 106) (i := 6) 0 rfl (by decide +kernel) ?_
  refine s_ldiv (pc := 108) (by decide +kernel) ?_
  refine s_lmul (pc := 109) (by decide +kernel) ?_
  refine s_iload_n (pc := 110) (k0 := 2) (i := 2) rfl 4 rfl (by decide +kernel) ?_
  refine s_cSj (pc := 111) [.long (v5 / w8), .long ((hJ g6 (hR g6 a0 5) (v1 + (1 : Int32)).toNatClampNeg) * ((60 : Int64) / w8)), .int a2] (tX7_part (v5 / w8) ((hJ g6 (hR g6 a0 5) (v1 + (1 : Int32)).toNatClampNeg) * ((60 : Int64) / w8)) a2 g6) cw_X7_336 rfl ⟨⟨Nat.le_of_ble_eq_true rfl, Nat.le_of_ble_eq_true rfl⟩, Nat.le_of_ble_eq_true rfl⟩ rfl (by decide +kernel) (fun w14 g12 e13 => ?_)
  exact s_lret (pc := 114) rfl (by decide +kernel)
theorem pX7_paper_e    (a0 : Nat) (a1 : Int32) (a2 : Int32) (h : xH) : S emJ kX7_paper h 0 [(0, .ref a0), (1, .int a1), (2, .int a2)] [] h (fX7_paper  a0 a1 a2 h) := by
  unfold fX7_paper
  refine s_aload_n (pc := 0) (k0 := 0) (i := 0) rfl 0 rfl (by decide +kernel) ?_
  refine s_iconst (pc := 1) (n := 0) (v := (0 : Int32)) (by decide) (by decide +kernel) ?_
  refine S_gd (fun c1 => ?_)
  refine s_putI (pc := 2) (k := 0) c1 ft_X7_107 (fw_7_0 _ _) rfl rfl (by decide +kernel) ?_
  refine s_nmH (o := h) rfl (fun g2 e3 => ?_)
  refine s_iload_n (pc := 5) (k0 := 1) (i := 1) rfl 1 rfl (by decide +kernel) ?_
  refine s_i2l (pc := 6) (by decide +kernel) ?_
  refine s_lconst (pc := 7) (n := 0) (v := (0 : Int64)) (by decide) (by decide +kernel) ?_
  refine s_aload_n (pc := 8) (k0 := 0) (i := 0) rfl 0 rfl (by decide +kernel) ?_
  have c4 := kp e3 c1 (by decide)
  refine s_getI (pc := 9) (k := 4) c4 ft_X7_125 rfl (by decide +kernel) ?_
  refine s_i2l (pc := 12) (by decide +kernel) ?_
  refine s_lconst (pc := 13) (n := 1) (v := (1 : Int64)) (by decide) (by decide +kernel) ?_
  refine s_lsub (pc := 14) (by decide +kernel) ?_
  refine s_cSi (pc := 15) [.long a1.toInt64, .long (0 : Int64), .long (((hI g2 a0 4).toInt64) - (1 : Int64))] (tX7_in a1.toInt64 (0 : Int64) (((hI g2 a0 4).toInt64) - (1 : Int64)) g2) cw_X7_114 rfl ⟨⟨Nat.le_of_ble_eq_true rfl, Nat.le_of_ble_eq_true rfl⟩, Nat.le_of_ble_eq_true rfl⟩ rfl (by decide +kernel) (fun w7 g5 e6 => ?_)
  refine s_if_eq (pc := 18) (off := 15) 33 (by decide +kernel) (by decide) (fun _ => ?_) (fun _ => ?_)
  · refine s_ldc2 (pc := 33) (v := (-9223372036854775808 : Int64)) (index := 334) (gd_of 1298 (by decide +kernel) rfl) (by decide +kernel) ?_
    exact s_lret (pc := 36) rfl (by decide +kernel)
  · refine s_iload_n (pc := 21) (k0 := 2) (i := 2) rfl 2 rfl (by decide +kernel) ?_
    refine s_i2l (pc := 22) (by decide +kernel) ?_
    refine s_lconst (pc := 23) (n := 0) (v := (0 : Int64)) (by decide) (by decide +kernel) ?_
    refine s_ldc2 (pc := 24) (v := (4 : Int64)) (index := 332) (gd_of 1297 (by decide +kernel) rfl) (by decide +kernel) ?_
    refine s_cSi (pc := 27) [.long a2.toInt64, .long (0 : Int64), .long (4 : Int64)] (tX7_in a2.toInt64 (0 : Int64) (4 : Int64) g5) cw_X7_114 rfl ⟨⟨Nat.le_of_ble_eq_true rfl, Nat.le_of_ble_eq_true rfl⟩, Nat.le_of_ble_eq_true rfl⟩ rfl (by decide +kernel) (fun w10 g8 e9 => ?_)
    refine s_if_ne (pc := 30) (off := 7) 37 (by decide +kernel) (by decide) (fun _ => ?_) (fun _ => ?_)
    · refine s_ldc2 (pc := 33) (v := (-9223372036854775808 : Int64)) (index := 334) (gd_of 1298 (by decide +kernel) rfl) (by decide +kernel) ?_
      exact s_lret (pc := 36) rfl (by decide +kernel)
    · refine s_iload_n (pc := 37) (k0 := 2) (i := 2) rfl 2 rfl (by decide +kernel) ?_
      refine s_iconst (pc := 38) (n := 4) (v := (4 : Int32)) (by decide) (by decide +kernel) ?_
      refine s_icmp_ne (pc := 39) (off := 18) 57 (by decide +kernel) (by decide) (fun _ => ?_) (fun _ => ?_)
      · refine s_aload_n (pc := 42) (k0 := 0) (i := 0) rfl 0 rfl (by decide +kernel) ?_
        have c11 := kp (Le.tr e6 e9) c4 (by decide)
        refine s_getR (pc := 43) (k := 6) c11 ft_X7_22 rfl (by decide +kernel) ?_
        refine s_iload_n (pc := 46) (k0 := 1) (i := 1) rfl 1 rfl (by decide +kernel) ?_
        refine S_gd (fun c12 => ?_)
        refine S_gd (fun c13 => ?_)
        refine s_zald (pc := 47) c12 c13 (by decide +kernel) ?_
        refine s_if_eq (pc := 48) (off := 7) 55 (by decide +kernel) (by decide) (fun _ => ?_) (fun _ => ?_)
        · refine s_lconst (pc := 55) (n := 0) (v := (0 : Int64)) (by decide) (by decide +kernel) ?_
          exact s_lret (pc := 56) rfl (by decide +kernel)
        · refine s_lconst (pc := 51) (n := 1) (v := (1 : Int64)) (by decide) (by decide +kernel) ?_
          refine s_goto (pc := 52) (off := 4) 56 (by decide +kernel) (by decide) ?_
          exact s_lret (pc := 56) rfl (by decide +kernel)
      · refine s_iconst (pc := 57) (n := 4) (v := (4 : Int32)) (by decide) (by decide +kernel) ?_
        refine s_iload_n (pc := 58) (k0 := 1) (i := 1) rfl 1 rfl (by decide +kernel) ?_
        refine s_imul (pc := 59) (by decide +kernel) ?_
        refine s_iload_n (pc := 60) (k0 := 2) (i := 2) rfl 2 rfl (by decide +kernel) ?_
        refine s_iconst (pc := 61) (n := 2) (v := (2 : Int32)) (by decide) (by decide +kernel) ?_
        refine s_icmp_ge (pc := 62) (off := 7) 69 (by decide +kernel) (by decide) (fun _ => ?_) (fun _ => ?_)
        · refine s_iconst (pc := 69) (n := 2) (v := (2 : Int32)) (by decide) (by decide +kernel) ?_
          refine S_sub [0, 2] rfl ?_
          exact pX7_paper_b70 (2 : Int32) ((4 : Int32) * a1) a0 a2 g8
        · refine s_iconst (pc := 65) (n := 0) (v := (0 : Int32)) (by decide) (by decide +kernel) ?_
          refine s_goto (pc := 66) (off := 4) 70 (by decide +kernel) (by decide) ?_
          refine S_sub [0, 2] rfl ?_
          exact pX7_paper_b70 (0 : Int32) ((4 : Int32) * a1) a0 a2 g8
theorem tX7_paper (a0 : Nat) (a1 : Int32) (a2 : Int32) (h : xH) : Ct yX7_paper kX7_paper emJ [.ref a0, .int a1, .int a2] h (fX7_paper a0 a1 a2 h) := Ct_of (by decide +kernel) rfl rfl rfl (Nat.le_of_ble_eq_true rfl) rfl (pX7_paper_e a0 a1 a2 h)
