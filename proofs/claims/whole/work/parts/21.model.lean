def fX7_places_b128 (r47 : Nat → Int32 → Int32 → Int32 → xH → Option (Int32 × xH)) (s0 : Int32) (s1 : Int32) (a0 : Nat) (a3 : Int32) (a5 : Int32) (h : xH) : Option (Int32 × xH) :=
  lt (s1 + s0) (fun v1 =>
  lt (a5 + (1 : Int32)) (fun v2 =>
  r47 a0 a3 v1 v2 h))
def fX7_places_b116 (r47 : Nat → Int32 → Int32 → Int32 → xH → Option (Int32 × xH))  (a0 : Nat) (a3 : Int32) (a4 : Int32) (a5 : Int32) (a6 : Int32) (h : xH) : Option (Int32 × xH) :=
  if a6 = 0 then (
  fX7_places_b128 r47 (0 : Int32) a4 a0 a3 a5 h)
  else (
  fX7_places_b128 r47 (1 : Int32) a4 a0 a3 a5 h)
def fX7_places_b108 (r47 : Nat → Int32 → Int32 → Int32 → xH → Option (Int32 × xH)) (r59 : Nat → Int32 → Int32 → Int32 → Int32 → Int32 → xH → Option (Int32 × xH)) (s0 : Int32) (a0 : Nat) (a3 : Int32) (a4 : Int32) (a5 : Int32) (a7 : Int32) (h : xH) : Option (Int32 × xH) :=
  lt (a7 + (1 : Int32)) (fun v1 =>
  r59 a0 a3 a4 a5 s0 v1 h)
def fX7_places_b107 (r47 : Nat → Int32 → Int32 → Int32 → xH → Option (Int32 × xH)) (r59 : Nat → Int32 → Int32 → Int32 → Int32 → Int32 → xH → Option (Int32 × xH))  (a0 : Nat) (a3 : Int32) (a4 : Int32) (a5 : Int32) (a7 : Int32) (h : xH) : Option (Int32 × xH) :=
  fX7_places_b108 r47 r59 (0 : Int32) a0 a3 a4 a5 a7 h
def fX7_places_b59 (r47 : Nat → Int32 → Int32 → Int32 → xH → Option (Int32 × xH)) (r59 : Nat → Int32 → Int32 → Int32 → Int32 → Int32 → xH → Option (Int32 × xH))  (a0 : Nat) (a3 : Int32) (a4 : Int32) (a5 : Int32) (a6 : Int32) (a7 : Int32) (h : xH) : Option (Int32 × xH) :=
  if kc h a0 = 7 then
  if (hI h a0 26) ≤ a7 then (
  fX7_places_b116 r47 a0 a3 a4 a5 a6 h)
  else (
  if a6 = 0 then (
  if kc h (hR h a0 25) = 8 then
  if ix ((4 : Int32) * a7) (kl h (hR h a0 25)) then
  if a5 < (hI h (hR h a0 25) ((4 : Int32) * a7).toNatClampNeg) then (
  fX7_places_b107 r47 r59 a0 a3 a4 a5 a7 h)
  else (
  if ix (((4 : Int32) * a7) + (2 : Int32)) (kl h (hR h a0 25)) then
  if (hI h (hR h a0 25) (((4 : Int32) * a7) + (2 : Int32)).toNatClampNeg) < a5 then (
  fX7_places_b107 r47 r59 a0 a3 a4 a5 a7 h)
  else (
  fX7_places_b108 r47 r59 (1 : Int32) a0 a3 a4 a5 a7 h)
  else none)
  else none
  else none)
  else (
  fX7_places_b116 r47 a0 a3 a4 a5 a6 h))
  else none
def fX7_places_l59 (r47 : Nat → Int32 → Int32 → Int32 → xH → Option (Int32 × xH)) : Nat → Nat → Int32 → Int32 → Int32 → Int32 → Int32 → xH → Option (Int32 × xH)
  | 0 => fun _ _ _ _ _ _ _ => none
  | k + 1 => fX7_places_b59 r47 (fX7_places_l59 r47 k)
def fX7_places_b47 (r47 : Nat → Int32 → Int32 → Int32 → xH → Option (Int32 × xH))  (a0 : Nat) (a3 : Int32) (a4 : Int32) (a5 : Int32) (h : xH) : Option (Int32 × xH) :=
  if a3 < a5 then (
  some (a4, h))
  else (
  lt (0 : Int32) (fun v1 =>
  lt (0 : Int32) (fun v2 =>
  fX7_places_l59 r47 FU a0 a3 a4 a5 v1 v2 h)))
def fX7_places_l47  : Nat → Nat → Int32 → Int32 → Int32 → xH → Option (Int32 × xH)
  | 0 => fun _ _ _ _ _ => none
  | k + 1 => fX7_places_b47 (fX7_places_l47  k)
def fX7_places   (a0 : Nat) (a1 : Int32) (a2 : Int32) (a3 : Int32) (h : xH) : Option (Int32 × xH) :=
  if kc h a0 = 7 then
  lt (sI h a0 0 (0 : Int32)) (fun g2 =>
  bd (fX7_isStore a1 g2) (fun w6 g4 =>
  if w6 = 0 then (
  some ((-1 : Int32), g4))
  else (
  bd (fX7_isPlace a2.toInt64 g4) (fun w9 g7 =>
  if w9 = 0 then (
  some ((-1 : Int32), g7))
  else (
  bd (fX7_isPlace a3.toInt64 g7) (fun w12 g10 =>
  if w12 = 0 then (
  some ((-1 : Int32), g10))
  else (
  if a2 ≤ a3 then (
  bd (fX7_laySpans a0 a1 (0 : Int32) g10) (fun _ g14 =>
  lt (0 : Int32) (fun v16 =>
  fX7_places_l47 FU a0 a3 v16 a2 g14)))
  else (
  some ((-1 : Int32), g10)))))))))
  else none
theorem pX7_places_b128 {h0 : xH} {r47 : Nat → Int32 → Int32 → Int32 → xH → Option (Int32 × xH)} (hr47 : ∀  (a0 : Nat) (a3 : Int32) (a4 : Int32) (a5 : Int32) (g : xH), S emI kX7_places h0 47 [(0, .ref a0), (3, .int a3), (4, .int a4), (5, .int a5)] [] g (r47  a0 a3 a4 a5 g)) (s0 : Int32) (s1 : Int32) (a0 : Nat) (a3 : Int32) (a5 : Int32) (h : xH) : S emI kX7_places h0 128 [(0, .ref a0), (3, .int a3), (5, .int a5)] [.int s0, .int s1] h (fX7_places_b128 r47 s0 s1 a0 a3 a5 h) := by
  unfold fX7_places_b128
  refine s_iadd (pc := 128) (by decide +kernel) ?_
  refine s_nmI (fun v1 => ?_)
  refine s_istore (pc := 129) (L' := [(4, .int v1), (0, .ref a0), (3, .int a3), (5, .int a5)]) (i := 4) (by decide) rfl (by decide +kernel) ?_
  refine s_iinc (pc := 131) (L' := [(5, .int (a5 + (1 : Int32))), (4, .int v1), (0, .ref a0), (3, .int a3)]) (i := 5) (n := 1) 3 rfl rfl (by decide) rfl (by decide +kernel) ?_
  refine s_nmI0 (e := a5 + (1 : Int32)) (L := fun v2 => [(5, .int v2), (4, .int v1), (0, .ref a0), (3, .int a3)]) (fun v2 => ?_)
  refine s_goto (pc := 134) (off := -87) 47 (by decide +kernel) (by decide) ?_
  refine S_sub [2, 3, 1, 0] rfl ?_
  exact hr47 a0 a3 v1 v2 h
theorem pX7_places_b116 {h0 : xH} {r47 : Nat → Int32 → Int32 → Int32 → xH → Option (Int32 × xH)} (hr47 : ∀  (a0 : Nat) (a3 : Int32) (a4 : Int32) (a5 : Int32) (g : xH), S emI kX7_places h0 47 [(0, .ref a0), (3, .int a3), (4, .int a4), (5, .int a5)] [] g (r47  a0 a3 a4 a5 g))  (a0 : Nat) (a3 : Int32) (a4 : Int32) (a5 : Int32) (a6 : Int32) (h : xH) : S emI kX7_places h0 116 [(0, .ref a0), (3, .int a3), (4, .int a4), (5, .int a5), (6, .int a6)] [] h (fX7_places_b116 r47 a0 a3 a4 a5 a6 h) := by
  unfold fX7_places_b116
  refine s_iload (pc := 116) (i := 4) 2 rfl (by decide +kernel) ?_
  refine s_iload (pc := 118) (i := 6) 4 rfl (by decide +kernel) ?_
  refine s_if_eq (pc := 120) (off := 7) 127 (by decide +kernel) (by decide) (fun _ => ?_) (fun _ => ?_)
  · refine s_iconst (pc := 127) (n := 0) (v := (0 : Int32)) (by decide) (by decide +kernel) ?_
    refine S_sub [0, 1, 3] rfl ?_
    exact pX7_places_b128 hr47 (0 : Int32) a4 a0 a3 a5 h
  · refine s_iconst (pc := 123) (n := 1) (v := (1 : Int32)) (by decide) (by decide +kernel) ?_
    refine s_goto (pc := 124) (off := 4) 128 (by decide +kernel) (by decide) ?_
    refine S_sub [0, 1, 3] rfl ?_
    exact pX7_places_b128 hr47 (1 : Int32) a4 a0 a3 a5 h
theorem pX7_places_b108 {h0 : xH} {r47 : Nat → Int32 → Int32 → Int32 → xH → Option (Int32 × xH)} {r59 : Nat → Int32 → Int32 → Int32 → Int32 → Int32 → xH → Option (Int32 × xH)} (hr47 : ∀  (a0 : Nat) (a3 : Int32) (a4 : Int32) (a5 : Int32) (g : xH), S emI kX7_places h0 47 [(0, .ref a0), (3, .int a3), (4, .int a4), (5, .int a5)] [] g (r47  a0 a3 a4 a5 g)) (hr59 : ∀  (a0 : Nat) (a3 : Int32) (a4 : Int32) (a5 : Int32) (a6 : Int32) (a7 : Int32) (g : xH), S emI kX7_places h0 59 [(0, .ref a0), (3, .int a3), (4, .int a4), (5, .int a5), (6, .int a6), (7, .int a7)] [] g (r59  a0 a3 a4 a5 a6 a7 g)) (s0 : Int32) (a0 : Nat) (a3 : Int32) (a4 : Int32) (a5 : Int32) (a7 : Int32) (h : xH) : S emI kX7_places h0 108 [(0, .ref a0), (3, .int a3), (4, .int a4), (5, .int a5), (7, .int a7)] [.int s0] h (fX7_places_b108 r47 r59 s0 a0 a3 a4 a5 a7 h) := by
  unfold fX7_places_b108
  refine s_istore (pc := 108) (L' := [(6, .int s0), (0, .ref a0), (3, .int a3), (4, .int a4), (5, .int a5), (7, .int a7)]) (i := 6) (by decide) rfl (by decide +kernel) ?_
  refine s_iinc (pc := 110) (L' := [(7, .int (a7 + (1 : Int32))), (6, .int s0), (0, .ref a0), (3, .int a3), (4, .int a4), (5, .int a5)]) (i := 7) (n := 1) 5 rfl rfl (by decide) rfl (by decide +kernel) ?_
  refine s_nmI0 (e := a7 + (1 : Int32)) (L := fun v1 => [(7, .int v1), (6, .int s0), (0, .ref a0), (3, .int a3), (4, .int a4), (5, .int a5)]) (fun v1 => ?_)
  refine s_goto (pc := 113) (off := -54) 59 (by decide +kernel) (by decide) ?_
  refine S_sub [2, 3, 4, 5, 1, 0] rfl ?_
  exact hr59 a0 a3 a4 a5 s0 v1 h
theorem pX7_places_b107 {h0 : xH} {r47 : Nat → Int32 → Int32 → Int32 → xH → Option (Int32 × xH)} {r59 : Nat → Int32 → Int32 → Int32 → Int32 → Int32 → xH → Option (Int32 × xH)} (hr47 : ∀  (a0 : Nat) (a3 : Int32) (a4 : Int32) (a5 : Int32) (g : xH), S emI kX7_places h0 47 [(0, .ref a0), (3, .int a3), (4, .int a4), (5, .int a5)] [] g (r47  a0 a3 a4 a5 g)) (hr59 : ∀  (a0 : Nat) (a3 : Int32) (a4 : Int32) (a5 : Int32) (a6 : Int32) (a7 : Int32) (g : xH), S emI kX7_places h0 59 [(0, .ref a0), (3, .int a3), (4, .int a4), (5, .int a5), (6, .int a6), (7, .int a7)] [] g (r59  a0 a3 a4 a5 a6 a7 g))  (a0 : Nat) (a3 : Int32) (a4 : Int32) (a5 : Int32) (a7 : Int32) (h : xH) : S emI kX7_places h0 107 [(0, .ref a0), (3, .int a3), (4, .int a4), (5, .int a5), (7, .int a7)] [] h (fX7_places_b107 r47 r59 a0 a3 a4 a5 a7 h) := by
  unfold fX7_places_b107
  refine s_iconst (pc := 107) (n := 0) (v := (0 : Int32)) (by decide) (by decide +kernel) ?_
  exact pX7_places_b108 hr47 hr59 (0 : Int32) a0 a3 a4 a5 a7 h
theorem pX7_places_b59 {h0 : xH} {r47 : Nat → Int32 → Int32 → Int32 → xH → Option (Int32 × xH)} {r59 : Nat → Int32 → Int32 → Int32 → Int32 → Int32 → xH → Option (Int32 × xH)} (hr47 : ∀  (a0 : Nat) (a3 : Int32) (a4 : Int32) (a5 : Int32) (g : xH), S emI kX7_places h0 47 [(0, .ref a0), (3, .int a3), (4, .int a4), (5, .int a5)] [] g (r47  a0 a3 a4 a5 g)) (hr59 : ∀  (a0 : Nat) (a3 : Int32) (a4 : Int32) (a5 : Int32) (a6 : Int32) (a7 : Int32) (g : xH), S emI kX7_places h0 59 [(0, .ref a0), (3, .int a3), (4, .int a4), (5, .int a5), (6, .int a6), (7, .int a7)] [] g (r59  a0 a3 a4 a5 a6 a7 g))  (a0 : Nat) (a3 : Int32) (a4 : Int32) (a5 : Int32) (a6 : Int32) (a7 : Int32) (h : xH) : S emI kX7_places h0 59 [(0, .ref a0), (3, .int a3), (4, .int a4), (5, .int a5), (6, .int a6), (7, .int a7)] [] h (fX7_places_b59 r47 r59 a0 a3 a4 a5 a6 a7 h) := by
  unfold fX7_places_b59
  refine s_iload (pc := 59) (i := 7) 5 rfl (by decide +kernel) ?_
  refine s_aload_n (pc := 61) (k0 := 0) (i := 0) rfl 0 rfl (by decide +kernel) ?_
  refine S_gd (fun c1 => ?_)
  refine s_getI (pc := 62) (k := 26) c1 ft_X7_165 rfl (by decide +kernel) ?_
  refine s_icmp_ge (pc := 65) (off := 51) 116 (by decide +kernel) (by decide) (fun _ => ?_) (fun _ => ?_)
  · refine S_sub [0, 1, 2, 3, 4] rfl ?_
    exact pX7_places_b116 hr47 a0 a3 a4 a5 a6 h
  · refine s_iload (pc := 68) (i := 6) 4 rfl (by decide +kernel) ?_
    refine s_if_ne (pc := 70) (off := 46) 116 (by decide +kernel) (by decide) (fun _ => ?_) (fun _ => ?_)
    · refine s_aload_n (pc := 73) (k0 := 0) (i := 0) rfl 0 rfl (by decide +kernel) ?_
      refine s_getR (pc := 74) (k := 25) c1 ft_X7_72 rfl (by decide +kernel) ?_
      refine s_iconst (pc := 77) (n := 4) (v := (4 : Int32)) (by decide) (by decide +kernel) ?_
      refine s_iload (pc := 78) (i := 7) 5 rfl (by decide +kernel) ?_
      refine s_imul (pc := 80) (by decide +kernel) ?_
      refine S_gd (fun c2 => ?_)
      refine S_gd (fun c3 => ?_)
      refine s_iald (pc := 81) c2 c3 (by decide +kernel) ?_
      refine s_iload (pc := 82) (i := 5) 3 rfl (by decide +kernel) ?_
      refine s_icmp_gt (pc := 84) (off := 23) 107 (by decide +kernel) (by decide) (fun _ => ?_) (fun _ => ?_)
      · refine S_sub [0, 1, 2, 3, 5] rfl ?_
        exact pX7_places_b107 hr47 hr59 a0 a3 a4 a5 a7 h
      · refine s_iload (pc := 87) (i := 5) 3 rfl (by decide +kernel) ?_
        refine s_aload_n (pc := 89) (k0 := 0) (i := 0) rfl 0 rfl (by decide +kernel) ?_
        refine s_getR (pc := 90) (k := 25) c1 ft_X7_72 rfl (by decide +kernel) ?_
        refine s_iconst (pc := 93) (n := 4) (v := (4 : Int32)) (by decide) (by decide +kernel) ?_
        refine s_iload (pc := 94) (i := 7) 5 rfl (by decide +kernel) ?_
        refine s_imul (pc := 96) (by decide +kernel) ?_
        refine s_iconst (pc := 97) (n := 2) (v := (2 : Int32)) (by decide) (by decide +kernel) ?_
        refine s_iadd (pc := 98) (by decide +kernel) ?_
        refine S_gd (fun c4 => ?_)
        refine s_iald (pc := 99) c2 c4 (by decide +kernel) ?_
        refine s_icmp_gt (pc := 100) (off := 7) 107 (by decide +kernel) (by decide) (fun _ => ?_) (fun _ => ?_)
        · refine S_sub [0, 1, 2, 3, 5] rfl ?_
          exact pX7_places_b107 hr47 hr59 a0 a3 a4 a5 a7 h
        · refine s_iconst (pc := 103) (n := 1) (v := (1 : Int32)) (by decide) (by decide +kernel) ?_
          refine s_goto (pc := 104) (off := 4) 108 (by decide +kernel) (by decide) ?_
          refine S_sub [0, 1, 2, 3, 5] rfl ?_
          exact pX7_places_b108 hr47 hr59 (1 : Int32) a0 a3 a4 a5 a7 h
    · refine S_sub [0, 1, 2, 3, 4] rfl ?_
      exact pX7_places_b116 hr47 a0 a3 a4 a5 a6 h
theorem pX7_places_l59 {h0 : xH} {r47 : Nat → Int32 → Int32 → Int32 → xH → Option (Int32 × xH)} (hr47 : ∀  (a0 : Nat) (a3 : Int32) (a4 : Int32) (a5 : Int32) (g : xH), S emI kX7_places h0 47 [(0, .ref a0), (3, .int a3), (4, .int a4), (5, .int a5)] [] g (r47  a0 a3 a4 a5 g)) : ∀ (k : Nat)  (a0 : Nat) (a3 : Int32) (a4 : Int32) (a5 : Int32) (a6 : Int32) (a7 : Int32) (h : xH), S emI kX7_places h0 59 [(0, .ref a0), (3, .int a3), (4, .int a4), (5, .int a5), (6, .int a6), (7, .int a7)] [] h (fX7_places_l59 r47 k  a0 a3 a4 a5 a6 a7 h) := by
  intro k
  induction k with
  | zero => intros; exact S_none
  | succ k ih => intro  a0 a3 a4 a5 a6 a7 h; exact pX7_places_b59 hr47 ih  a0 a3 a4 a5 a6 a7 h
theorem pX7_places_b47 {h0 : xH} {r47 : Nat → Int32 → Int32 → Int32 → xH → Option (Int32 × xH)} (hr47 : ∀  (a0 : Nat) (a3 : Int32) (a4 : Int32) (a5 : Int32) (g : xH), S emI kX7_places h0 47 [(0, .ref a0), (3, .int a3), (4, .int a4), (5, .int a5)] [] g (r47  a0 a3 a4 a5 g))  (a0 : Nat) (a3 : Int32) (a4 : Int32) (a5 : Int32) (h : xH) : S emI kX7_places h0 47 [(0, .ref a0), (3, .int a3), (4, .int a4), (5, .int a5)] [] h (fX7_places_b47 r47 a0 a3 a4 a5 h) := by
  unfold fX7_places_b47
  refine s_iload (pc := 47) (i := 5) 3 rfl (by decide +kernel) ?_
  refine s_iload_n (pc := 49) (k0 := 3) (i := 3) rfl 1 rfl (by decide +kernel) ?_
  refine s_icmp_gt (pc := 50) (off := 87) 137 (by decide +kernel) (by decide) (fun _ => ?_) (fun _ => ?_)
  · refine s_iload (pc := 137) (i := 4) 2 rfl (by decide +kernel) ?_
    exact s_iret (pc := 139) rfl (by decide +kernel)
  · refine s_iconst (pc := 53) (n := 0) (v := (0 : Int32)) (by decide) (by decide +kernel) ?_
    refine s_nmI (fun v1 => ?_)
    refine s_istore (pc := 54) (L' := [(6, .int v1), (0, .ref a0), (3, .int a3), (4, .int a4), (5, .int a5)]) (i := 6) (by decide) rfl (by decide +kernel) ?_
    refine s_iconst (pc := 56) (n := 0) (v := (0 : Int32)) (by decide) (by decide +kernel) ?_
    refine s_nmI (fun v2 => ?_)
    refine s_istore (pc := 57) (L' := [(7, .int v2), (6, .int v1), (0, .ref a0), (3, .int a3), (4, .int a4), (5, .int a5)]) (i := 7) (by decide) rfl (by decide +kernel) ?_
    refine S_sub [2, 3, 4, 5, 1, 0] rfl ?_
    exact pX7_places_l59 hr47 FU a0 a3 a4 a5 v1 v2 h
theorem pX7_places_l47 {h0 : xH}   : ∀ (k : Nat)  (a0 : Nat) (a3 : Int32) (a4 : Int32) (a5 : Int32) (h : xH), S emI kX7_places h0 47 [(0, .ref a0), (3, .int a3), (4, .int a4), (5, .int a5)] [] h (fX7_places_l47  k  a0 a3 a4 a5 h) := by
  intro k
  induction k with
  | zero => intros; exact S_none
  | succ k ih => intro  a0 a3 a4 a5 h; exact pX7_places_b47 ih  a0 a3 a4 a5 h
theorem pX7_places_e    (a0 : Nat) (a1 : Int32) (a2 : Int32) (a3 : Int32) (h : xH) : S emI kX7_places h 0 [(0, .ref a0), (1, .int a1), (2, .int a2), (3, .int a3)] [] h (fX7_places  a0 a1 a2 a3 h) := by
  unfold fX7_places
  refine s_aload_n (pc := 0) (k0 := 0) (i := 0) rfl 0 rfl (by decide +kernel) ?_
  refine s_iconst (pc := 1) (n := 0) (v := (0 : Int32)) (by decide) (by decide +kernel) ?_
  refine S_gd (fun c1 => ?_)
  refine s_putI (pc := 2) (k := 0) c1 ft_X7_107 (fw_7_0 _ _) rfl rfl (by decide +kernel) ?_
  refine s_nmH (o := h) rfl (fun g2 e3 => ?_)
  refine s_iload_n (pc := 5) (k0 := 1) (i := 1) rfl 1 rfl (by decide +kernel) ?_
  refine s_cSi (pc := 6) [.int a1] (tX7_isStore a1 g2) cw_X7_247 rfl ⟨⟨Nat.le_of_ble_eq_true rfl, Nat.le_of_ble_eq_true rfl⟩, Nat.le_of_ble_eq_true rfl⟩ rfl (by decide +kernel) (fun w6 g4 e5 => ?_)
  refine s_if_eq (pc := 9) (off := 24) 33 (by decide +kernel) (by decide) (fun _ => ?_) (fun _ => ?_)
  · refine s_iconst (pc := 33) (n := -1) (v := (-1 : Int32)) (by decide) (by decide +kernel) ?_
    exact s_iret (pc := 34) rfl (by decide +kernel)
  · refine s_iload_n (pc := 12) (k0 := 2) (i := 2) rfl 2 rfl (by decide +kernel) ?_
    refine s_i2l (pc := 13) (by decide +kernel) ?_
    refine s_cSi (pc := 14) [.long a2.toInt64] (tX7_isPlace a2.toInt64 g4) cw_X7_270 rfl ⟨⟨Nat.le_of_ble_eq_true rfl, Nat.le_of_ble_eq_true rfl⟩, Nat.le_of_ble_eq_true rfl⟩ rfl (by decide +kernel) (fun w9 g7 e8 => ?_)
    refine s_if_eq (pc := 17) (off := 16) 33 (by decide +kernel) (by decide) (fun _ => ?_) (fun _ => ?_)
    · refine s_iconst (pc := 33) (n := -1) (v := (-1 : Int32)) (by decide) (by decide +kernel) ?_
      exact s_iret (pc := 34) rfl (by decide +kernel)
    · refine s_iload_n (pc := 20) (k0 := 3) (i := 3) rfl 3 rfl (by decide +kernel) ?_
      refine s_i2l (pc := 21) (by decide +kernel) ?_
      refine s_cSi (pc := 22) [.long a3.toInt64] (tX7_isPlace a3.toInt64 g7) cw_X7_270 rfl ⟨⟨Nat.le_of_ble_eq_true rfl, Nat.le_of_ble_eq_true rfl⟩, Nat.le_of_ble_eq_true rfl⟩ rfl (by decide +kernel) (fun w12 g10 e11 => ?_)
      refine s_if_eq (pc := 25) (off := 8) 33 (by decide +kernel) (by decide) (fun _ => ?_) (fun _ => ?_)
      · refine s_iconst (pc := 33) (n := -1) (v := (-1 : Int32)) (by decide) (by decide +kernel) ?_
        exact s_iret (pc := 34) rfl (by decide +kernel)
      · refine s_iload_n (pc := 28) (k0 := 2) (i := 2) rfl 2 rfl (by decide +kernel) ?_
        refine s_iload_n (pc := 29) (k0 := 3) (i := 3) rfl 3 rfl (by decide +kernel) ?_
        refine s_icmp_le (pc := 30) (off := 5) 35 (by decide +kernel) (by decide) (fun _ => ?_) (fun _ => ?_)
        · refine s_aload_n (pc := 35) (k0 := 0) (i := 0) rfl 0 rfl (by decide +kernel) ?_
          refine s_iload_n (pc := 36) (k0 := 1) (i := 1) rfl 1 rfl (by decide +kernel) ?_
          refine s_iconst (pc := 37) (n := 0) (v := (0 : Int32)) (by decide) (by decide +kernel) ?_
          have c13 := kp (Le.tr e3 (Le.tr e5 (Le.tr e8 e11))) c1 (by decide)
          refine s_cVv (pc := 38) [.int a1, .int (0 : Int32)] (tX7_laySpans a0 a1 (0 : Int32) g10) c13 cw_X7_181 rfl ⟨⟨Nat.le_of_ble_eq_true rfl, Nat.le_of_ble_eq_true rfl⟩, Nat.le_of_ble_eq_true rfl⟩ rfl (by decide +kernel) (fun _ g14 e15 => ?_)
          refine s_iconst (pc := 41) (n := 0) (v := (0 : Int32)) (by decide) (by decide +kernel) ?_
          refine s_nmI (fun v16 => ?_)
          refine s_istore (pc := 42) (L' := [(4, .int v16), (0, .ref a0), (1, .int a1), (2, .int a2), (3, .int a3)]) (i := 4) (by decide) rfl (by decide +kernel) ?_
          refine s_iload_n (pc := 44) (k0 := 2) (i := 2) rfl 3 rfl (by decide +kernel) ?_
          refine s_istore (pc := 45) (L' := [(5, .int a2), (4, .int v16), (0, .ref a0), (1, .int a1), (2, .int a2), (3, .int a3)]) (i := 5) (by decide) rfl (by decide +kernel) ?_
          refine S_sub [2, 5, 1, 0] rfl ?_
          exact pX7_places_l47 FU a0 a3 v16 a2 g14
        · refine s_iconst (pc := 33) (n := -1) (v := (-1 : Int32)) (by decide) (by decide +kernel) ?_
          exact s_iret (pc := 34) rfl (by decide +kernel)
theorem tX7_places (a0 : Nat) (a1 : Int32) (a2 : Int32) (a3 : Int32) (h : xH) : Ct yX7_places kX7_places emI [.ref a0, .int a1, .int a2, .int a3] h (fX7_places a0 a1 a2 a3 h) := Ct_of (by decide +kernel) rfl rfl rfl (Nat.le_of_ble_eq_true rfl) rfl (pX7_places_e a0 a1 a2 a3 h)
def fX7_tries_b127   (a0 : Nat) (h : xH) : Option (Unit × xH) :=
  if kc h a0 = 7 then
  lt (sI h a0 53 (1 : Int32)) (fun g2 =>
  some ((), g2))
  else none
def fX7_tries_b109   (a0 : Nat) (a4 : Int32) (a9 : Int64) (a11 : Int64) (h : xH) : Option (Unit × xH) :=
  if kc h a0 = 7 then
  lt (sJ h a0 50 a9) (fun g2 =>
  lt (sJ g2 a0 51 a11) (fun g5 =>
  lt (sI g5 a0 52 a4) (fun g8 =>
  fX7_tries_b127 a0 g8)))
  else none
def fX7_tries_b88  (s0 : Int32) (a0 : Nat) (a4 : Int32) (a9 : Int64) (a11 : Int64) (h : xH) : Option (Unit × xH) :=
  if s0 < 0 then (
  fX7_tries_b109 a0 a4 a9 a11 h)
  else (
  if s0 = 0 then (
  if kc h a0 = 7 then
  if (hI h a0 52) ≤ a4 then (
  fX7_tries_b127 a0 h)
  else (
  fX7_tries_b109 a0 a4 a9 a11 h)
  else none)
  else (
  fX7_tries_b127 a0 h))
def fX7_tries   (a0 : Nat) (a1 : Int32) (a2 : Int32) (a3 : Int32) (a4 : Int32) (h : xH) : Option (Unit × xH) :=
  if kc h a0 = 7 then
  bd (fX7_hasValue a0 a1 a4 h) (fun w4 g2 =>
  if w4 = 0 then (
  some ((), g2))
  else (
  lt (hJ g2 a0 45) (fun v6 =>
  lt (hJ g2 a0 46) (fun v7 =>
  bd (fX7_hasValue a0 a2 (a3 - a4) g2) (fun w10 g8 =>
  if w10 = 0 then (
  some ((), g8))
  else (
  lt ((v6 * (hJ g8 a0 46)) + ((hJ g8 a0 45) * v7)) (fun v12 =>
  lt (v7 * (hJ g8 a0 46)) (fun v13 =>
  if (hI g8 a0 53) = 0 then (
  fX7_tries_b88 (-1 : Int32) a0 a4 v12 v13 g8)
  else (
  bd (fX7_lie v12 v13 (hJ g8 a0 50) (hJ g8 a0 51) g8) (fun w16 g14 =>
  fX7_tries_b88 w16 a0 a4 v12 v13 g14))))))))))
  else none
theorem pX7_tries_b127 {h0 : xH}    (a0 : Nat) (h : xH) : S emV kX7_tries h0 127 [(0, .ref a0)] [] h (fX7_tries_b127  a0 h) := by
  unfold fX7_tries_b127
  refine s_aload_n (pc := 127) (k0 := 0) (i := 0) rfl 0 rfl (by decide +kernel) ?_
  refine s_iconst (pc := 128) (n := 1) (v := (1 : Int32)) (by decide) (by decide +kernel) ?_
  refine S_gd (fun c1 => ?_)
  refine s_putZ (pc := 129) (k := 53) (by decide) c1 ft_X7_391 (fw_7_53 _ _) rfl rfl (by decide +kernel) ?_
  refine s_nmH (o := h) rfl (fun g2 e3 => ?_)
  exact s_vret (pc := 132) rfl (by decide +kernel)
theorem pX7_tries_b109 {h0 : xH}    (a0 : Nat) (a4 : Int32) (a9 : Int64) (a11 : Int64) (h : xH) : S emV kX7_tries h0 109 [(0, .ref a0), (4, .int a4), (9, .long a9), (11, .long a11)] [] h (fX7_tries_b109  a0 a4 a9 a11 h) := by
  unfold fX7_tries_b109
  refine s_aload_n (pc := 109) (k0 := 0) (i := 0) rfl 0 rfl (by decide +kernel) ?_
  refine s_lload (pc := 110) (i := 9) 2 rfl (by decide +kernel) ?_
  refine S_gd (fun c1 => ?_)
  refine s_putJ (pc := 112) (k := 50) c1 ft_X7_394 (fw_7_50 _ _) rfl rfl (by decide +kernel) ?_
  refine s_nmH (o := h) rfl (fun g2 e3 => ?_)
  refine s_aload_n (pc := 115) (k0 := 0) (i := 0) rfl 0 rfl (by decide +kernel) ?_
  refine s_lload (pc := 116) (i := 11) 3 rfl (by decide +kernel) ?_
  have c4 := kp e3 c1 (by decide)
  refine s_putJ (pc := 118) (k := 51) c4 ft_X7_397 (fw_7_51 _ _) rfl rfl (by decide +kernel) ?_
  refine s_nmH (o := g2) rfl (fun g5 e6 => ?_)
  refine s_aload_n (pc := 121) (k0 := 0) (i := 0) rfl 0 rfl (by decide +kernel) ?_
  refine s_iload (pc := 122) (i := 4) 1 rfl (by decide +kernel) ?_
  have c7 := kp e6 c4 (by decide)
  refine s_putI (pc := 124) (k := 52) c7 ft_X7_400 (fw_7_52 _ _) rfl rfl (by decide +kernel) ?_
  refine s_nmH (o := g5) rfl (fun g8 e9 => ?_)
  refine S_sub [0] rfl ?_
  exact pX7_tries_b127 a0 g8
theorem pX7_tries_b88 {h0 : xH}   (s0 : Int32) (a0 : Nat) (a4 : Int32) (a9 : Int64) (a11 : Int64) (h : xH) : S emV kX7_tries h0 88 [(0, .ref a0), (4, .int a4), (9, .long a9), (11, .long a11)] [.int s0] h (fX7_tries_b88 s0 a0 a4 a9 a11 h) := by
  unfold fX7_tries_b88
  refine s_istore (pc := 88) (L' := [(13, .int s0), (0, .ref a0), (4, .int a4), (9, .long a9), (11, .long a11)]) (i := 13) (by decide) rfl (by decide +kernel) ?_
  refine s_iload (pc := 90) (i := 13) 0 rfl (by decide +kernel) ?_
  refine s_if_lt (pc := 92) (off := 17) 109 (by decide +kernel) (by decide) (fun _ => ?_) (fun _ => ?_)
  · refine S_sub [1, 2, 3, 4] rfl ?_
    exact pX7_tries_b109 a0 a4 a9 a11 h
  · refine s_iload (pc := 95) (i := 13) 0 rfl (by decide +kernel) ?_
    refine s_if_ne (pc := 97) (off := 30) 127 (by decide +kernel) (by decide) (fun _ => ?_) (fun _ => ?_)
    · refine s_iload (pc := 100) (i := 4) 2 rfl (by decide +kernel) ?_
      refine s_aload_n (pc := 102) (k0 := 0) (i := 0) rfl 1 rfl (by decide +kernel) ?_
      refine S_gd (fun c1 => ?_)
      refine s_getI (pc := 103) (k := 52) c1 ft_X7_400 rfl (by decide +kernel) ?_
      refine s_icmp_ge (pc := 106) (off := 21) 127 (by decide +kernel) (by decide) (fun _ => ?_) (fun _ => ?_)
      · refine S_sub [1] rfl ?_
        exact pX7_tries_b127 a0 h
      · refine S_sub [1, 2, 3, 4] rfl ?_
        exact pX7_tries_b109 a0 a4 a9 a11 h
    · refine S_sub [1] rfl ?_
      exact pX7_tries_b127 a0 h
theorem pX7_tries_e    (a0 : Nat) (a1 : Int32) (a2 : Int32) (a3 : Int32) (a4 : Int32) (h : xH) : S emV kX7_tries h 0 [(0, .ref a0), (1, .int a1), (2, .int a2), (3, .int a3), (4, .int a4)] [] h (fX7_tries  a0 a1 a2 a3 a4 h) := by
  unfold fX7_tries
  refine s_aload_n (pc := 0) (k0 := 0) (i := 0) rfl 0 rfl (by decide +kernel) ?_
  refine s_iload_n (pc := 1) (k0 := 1) (i := 1) rfl 1 rfl (by decide +kernel) ?_
  refine s_iload (pc := 2) (i := 4) 4 rfl (by decide +kernel) ?_
  refine S_gd (fun c1 => ?_)
  refine s_cVi (pc := 4) [.int a1, .int a4] (tX7_hasValue a0 a1 a4 h) c1 cw_X7_352 rfl ⟨⟨Nat.le_of_ble_eq_true rfl, Nat.le_of_ble_eq_true rfl⟩, Nat.le_of_ble_eq_true rfl⟩ rfl (by decide +kernel) (fun w4 g2 e3 => ?_)
  refine s_if_ne (pc := 7) (off := 4) 11 (by decide +kernel) (by decide) (fun _ => ?_) (fun _ => ?_)
  · exact s_vret (pc := 10) rfl (by decide +kernel)
  · refine s_aload_n (pc := 11) (k0 := 0) (i := 0) rfl 0 rfl (by decide +kernel) ?_
    have c5 := kp e3 c1 (by decide)
    refine s_getJ (pc := 12) (k := 45) c5 ft_X7_345 rfl (by decide +kernel) ?_
    refine s_nmJ (fun v6 => ?_)
    refine s_lstore (pc := 15) (L' := [(5, .long v6), (0, .ref a0), (1, .int a1), (2, .int a2), (3, .int a3), (4, .int a4)]) (i := 5) (by decide) rfl (by decide +kernel) ?_
    refine s_aload_n (pc := 17) (k0 := 0) (i := 0) rfl 1 rfl (by decide +kernel) ?_
    refine s_getJ (pc := 18) (k := 46) c5 ft_X7_349 rfl (by decide +kernel) ?_
    refine s_nmJ (fun v7 => ?_)
    refine s_lstore (pc := 21) (L' := [(7, .long v7), (5, .long v6), (0, .ref a0), (1, .int a1), (2, .int a2), (3, .int a3), (4, .int a4)]) (i := 7) (by decide) rfl (by decide +kernel) ?_
    refine s_aload_n (pc := 23) (k0 := 0) (i := 0) rfl 2 rfl (by decide +kernel) ?_
    refine s_iload_n (pc := 24) (k0 := 2) (i := 2) rfl 4 rfl (by decide +kernel) ?_
    refine s_iload_n (pc := 25) (k0 := 3) (i := 3) rfl 5 rfl (by decide +kernel) ?_
    refine s_iload (pc := 26) (i := 4) 6 rfl (by decide +kernel) ?_
    refine s_isub (pc := 28) (by decide +kernel) ?_
    refine s_cVi (pc := 29) [.int a2, .int (a3 - a4)] (tX7_hasValue a0 a2 (a3 - a4) g2) c5 cw_X7_352 rfl ⟨⟨Nat.le_of_ble_eq_true rfl, Nat.le_of_ble_eq_true rfl⟩, Nat.le_of_ble_eq_true rfl⟩ rfl (by decide +kernel) (fun w10 g8 e9 => ?_)
    refine s_if_ne (pc := 32) (off := 4) 36 (by decide +kernel) (by decide) (fun _ => ?_) (fun _ => ?_)
    · exact s_vret (pc := 35) rfl (by decide +kernel)
    · refine s_lload (pc := 36) (i := 5) 1 rfl (by decide +kernel) ?_
      refine s_aload_n (pc := 38) (k0 := 0) (i := 0) rfl 2 rfl (by decide +kernel) ?_
      have c11 := kp e9 c5 (by decide)
      refine s_getJ (pc := 39) (k := 46) c11 ft_X7_349 rfl (by decide +kernel) ?_
      refine s_lmul (pc := 42) (by decide +kernel) ?_
      refine s_aload_n (pc := 43) (k0 := 0) (i := 0) rfl 2 rfl (by decide +kernel) ?_
      refine s_getJ (pc := 44) (k := 45) c11 ft_X7_345 rfl (by decide +kernel) ?_
      refine s_lload (pc := 47) (i := 7) 0 rfl (by decide +kernel) ?_
      refine s_lmul (pc := 49) (by decide +kernel) ?_
      refine s_ladd (pc := 50) (by decide +kernel) ?_
      refine s_nmJ (fun v12 => ?_)
      refine s_lstore (pc := 51) (L' := [(9, .long v12), (7, .long v7), (5, .long v6), (0, .ref a0), (1, .int a1), (2, .int a2), (3, .int a3), (4, .int a4)]) (i := 9) (by decide) rfl (by decide +kernel) ?_
      refine s_lload (pc := 53) (i := 7) 1 rfl (by decide +kernel) ?_
      refine s_aload_n (pc := 55) (k0 := 0) (i := 0) rfl 3 rfl (by decide +kernel) ?_
      refine s_getJ (pc := 56) (k := 46) c11 ft_X7_349 rfl (by decide +kernel) ?_
      refine s_lmul (pc := 59) (by decide +kernel) ?_
      refine s_nmJ (fun v13 => ?_)
      refine s_lstore (pc := 60) (L' := [(11, .long v13), (9, .long v12), (7, .long v7), (5, .long v6), (0, .ref a0), (1, .int a1), (2, .int a2), (3, .int a3), (4, .int a4)]) (i := 11) (by decide) rfl (by decide +kernel) ?_
      refine s_aload_n (pc := 62) (k0 := 0) (i := 0) rfl 4 rfl (by decide +kernel) ?_
      refine s_getI (pc := 63) (k := 53) c11 ft_X7_391 rfl (by decide +kernel) ?_
      refine s_if_eq (pc := 66) (off := 21) 87 (by decide +kernel) (by decide) (fun _ => ?_) (fun _ => ?_)
      · refine s_iconst (pc := 87) (n := -1) (v := (-1 : Int32)) (by decide) (by decide +kernel) ?_
        refine S_sub [4, 8, 1, 0] rfl ?_
        exact pX7_tries_b88 (-1 : Int32) a0 a4 v12 v13 g8
      · refine s_lload (pc := 69) (i := 9) 1 rfl (by decide +kernel) ?_
        refine s_lload (pc := 71) (i := 11) 0 rfl (by decide +kernel) ?_
        refine s_aload_n (pc := 73) (k0 := 0) (i := 0) rfl 4 rfl (by decide +kernel) ?_
        refine s_getJ (pc := 74) (k := 50) c11 ft_X7_394 rfl (by decide +kernel) ?_
        refine s_aload_n (pc := 77) (k0 := 0) (i := 0) rfl 4 rfl (by decide +kernel) ?_
        refine s_getJ (pc := 78) (k := 51) c11 ft_X7_397 rfl (by decide +kernel) ?_
        refine s_cSi (pc := 81) [.long v12, .long v13, .long (hJ g8 a0 50), .long (hJ g8 a0 51)] (tX7_lie v12 v13 (hJ g8 a0 50) (hJ g8 a0 51) g8) cw_X7_189 rfl ⟨⟨Nat.le_of_ble_eq_true rfl, Nat.le_of_ble_eq_true rfl⟩, Nat.le_of_ble_eq_true rfl⟩ rfl (by decide +kernel) (fun w16 g14 e15 => ?_)
        refine s_goto (pc := 84) (off := 4) 88 (by decide +kernel) (by decide) ?_
        refine S_sub [4, 8, 1, 0] rfl ?_
        exact pX7_tries_b88 w16 a0 a4 v12 v13 g14
theorem tX7_tries (a0 : Nat) (a1 : Int32) (a2 : Int32) (a3 : Int32) (a4 : Int32) (h : xH) : Ct yX7_tries kX7_tries emV [.ref a0, .int a1, .int a2, .int a3, .int a4] h (fX7_tries a0 a1 a2 a3 a4 h) := Ct_of (by decide +kernel) rfl rfl rfl (Nat.le_of_ble_eq_true rfl) rfl (pX7_tries_e a0 a1 a2 a3 a4 h)
def fX7_split_b85 (r85 : Nat → Int32 → Int32 → Int32 → Int32 → Int32 → xH → Option (Int64 × xH))  (a0 : Nat) (a1 : Int32) (a2 : Int32) (a3 : Int32) (a4 : Int32) (a5 : Int32) (h : xH) : Option (Int64 × xH) :=
  if kc h a0 = 7 then
  bd (fX7_many a0 a2 h) (fun w4 g2 =>
  if w4 ≤ a5 then (
  if (hI g2 a0 53) = 0 then (
  some ((-9223372036854775808 : Int64), g2))
  else (
  if (2 : Int32) ≤ a4 then (
  bd (fX7_part ((hI g2 a0 52).toInt64) (60 : Int64) a4 g2) (fun w8 g6 =>
  some (w8, g6)))
  else (
  bd (fX7_part (hJ g2 a0 50) ((60 : Int64) * (hJ g2 a0 51)) a4 g2) (fun w11 g9 =>
  some (w11, g9)))))
  else (
  bd (fX7_xOf a0 a2 a5 g2) (fun w15 g13 =>
  bd (fX7_tries a0 a1 a2 a3 (a3 - w15) g13) (fun _ g17 =>
  lt (a5 + (1 : Int32)) (fun v19 =>
  r85 a0 a1 a2 a3 a4 v19 g17)))))
  else none
def fX7_split_l85  : Nat → Nat → Int32 → Int32 → Int32 → Int32 → Int32 → xH → Option (Int64 × xH)
  | 0 => fun _ _ _ _ _ _ _ => none
  | k + 1 => fX7_split_b85 (fX7_split_l85  k)
def fX7_split_b52 (r52 : Nat → Int32 → Int32 → Int32 → Int32 → Int32 → xH → Option (Int64 × xH))  (a0 : Nat) (a1 : Int32) (a2 : Int32) (a3 : Int32) (a4 : Int32) (a5 : Int32) (h : xH) : Option (Int64 × xH) :=
  if kc h a0 = 7 then
  bd (fX7_many a0 a1 h) (fun w4 g2 =>
  if w4 ≤ a5 then (
  lt (0 : Int32) (fun v5 =>
  fX7_split_l85 FU a0 a1 a2 a3 a4 v5 g2))
  else (
  bd (fX7_xOf a0 a1 a5 g2) (fun w9 g7 =>
  bd (fX7_tries a0 a1 a2 a3 w9 g7) (fun _ g11 =>
  lt (a5 + (1 : Int32)) (fun v13 =>
  r52 a0 a1 a2 a3 a4 v13 g11)))))
  else none
def fX7_split_l52  : Nat → Nat → Int32 → Int32 → Int32 → Int32 → Int32 → xH → Option (Int64 × xH)
  | 0 => fun _ _ _ _ _ _ _ => none
  | k + 1 => fX7_split_b52 (fX7_split_l52  k)
def fX7_split   (a0 : Nat) (a1 : Int32) (a2 : Int32) (a3 : Int32) (a4 : Int32) (h : xH) : Option (Int64 × xH) :=
  if kc h a0 = 7 then
  lt (sI h a0 0 (0 : Int32)) (fun g2 =>
  bd (fX7_isStore a1 g2) (fun w6 g4 =>
  if w6 = 0 then (
  some ((-9223372036854775808 : Int64), g4))
  else (
  bd (fX7_isStore a2 g4) (fun w9 g7 =>
  if w9 = 0 then (
  some ((-9223372036854775808 : Int64), g7))
  else (
  bd (fX7_isPlace a3.toInt64 g7) (fun w12 g10 =>
  if w12 = 0 then (
  some ((-9223372036854775808 : Int64), g10))
  else (
  bd (fX7_in a4.toInt64 (0 : Int64) (3 : Int64) g10) (fun w15 g13 =>
  if w15 = 0 then (
  some ((-9223372036854775808 : Int64), g13))
  else (
  lt (sI g13 a0 53 (0 : Int32)) (fun g17 =>
  lt (0 : Int32) (fun v19 =>
  fX7_split_l52 FU a0 a1 a2 a3 a4 v19 g17)))))))))))
  else none
theorem pX7_split_b85 {h0 : xH} {r85 : Nat → Int32 → Int32 → Int32 → Int32 → Int32 → xH → Option (Int64 × xH)} (hr85 : ∀  (a0 : Nat) (a1 : Int32) (a2 : Int32) (a3 : Int32) (a4 : Int32) (a5 : Int32) (g : xH), S emJ kX7_split h0 85 [(0, .ref a0), (1, .int a1), (2, .int a2), (3, .int a3), (4, .int a4), (5, .int a5)] [] g (r85  a0 a1 a2 a3 a4 a5 g))  (a0 : Nat) (a1 : Int32) (a2 : Int32) (a3 : Int32) (a4 : Int32) (a5 : Int32) (h : xH) : S emJ kX7_split h0 85 [(0, .ref a0), (1, .int a1), (2, .int a2), (3, .int a3), (4, .int a4), (5, .int a5)] [] h (fX7_split_b85 r85 a0 a1 a2 a3 a4 a5 h) := by
  unfold fX7_split_b85
  refine s_iload (pc := 85) (i := 5) 5 rfl (by decide +kernel) ?_
  refine s_aload_n (pc := 87) (k0 := 0) (i := 0) rfl 0 rfl (by decide +kernel) ?_
  refine s_iload_n (pc := 88) (k0 := 2) (i := 2) rfl 2 rfl (by decide +kernel) ?_
  refine S_gd (fun c1 => ?_)
  refine s_cVi (pc := 89) [.int a2] (tX7_many a0 a2 h) c1 cw_X7_168 rfl ⟨⟨Nat.le_of_ble_eq_true rfl, Nat.le_of_ble_eq_true rfl⟩, Nat.le_of_ble_eq_true rfl⟩ rfl (by decide +kernel) (fun w4 g2 e3 => ?_)
  refine s_icmp_ge (pc := 92) (off := 25) 117 (by decide +kernel) (by decide) (fun _ => ?_) (fun _ => ?_)
  · refine s_aload_n (pc := 117) (k0 := 0) (i := 0) rfl 0 rfl (by decide +kernel) ?_
    have c5 := kp e3 c1 (by decide)
    refine s_getI (pc := 118) (k := 53) c5 ft_X7_391 rfl (by decide +kernel) ?_
    refine s_if_ne (pc := 121) (off := 7) 128 (by decide +kernel) (by decide) (fun _ => ?_) (fun _ => ?_)
    · refine s_ldc2 (pc := 124) (v := (-9223372036854775808 : Int64)) (index := 334) (gd_of 1298 (by decide +kernel) rfl) (by decide +kernel) ?_
      exact s_lret (pc := 127) rfl (by decide +kernel)
    · refine s_iload (pc := 128) (i := 4) 4 rfl (by decide +kernel) ?_
      refine s_iconst (pc := 130) (n := 2) (v := (2 : Int32)) (by decide) (by decide +kernel) ?_
      refine s_icmp_ge (pc := 131) (off := 23) 154 (by decide +kernel) (by decide) (fun _ => ?_) (fun _ => ?_)
      · refine s_aload_n (pc := 154) (k0 := 0) (i := 0) rfl 0 rfl (by decide +kernel) ?_
        refine s_getI (pc := 155) (k := 52) c5 ft_X7_400 rfl (by decide +kernel) ?_
        refine s_i2l (pc := 158) (by decide +kernel) ?_
        refine s_ldc2 (pc := 159) (v := (60 : Int64)) (index := 274) (gd_of 1214 (by decide +kernel) rfl) (by decide +kernel) ?_
        refine s_iload (pc := 162) (i := 4) 4 rfl (by decide +kernel) ?_
        refine s_cSj (pc := 164) [.long ((hI g2 a0 52).toInt64), .long (60 : Int64), .int a4] (tX7_part ((hI g2 a0 52).toInt64) (60 : Int64) a4 g2) cw_X7_336 rfl ⟨⟨Nat.le_of_ble_eq_true rfl, Nat.le_of_ble_eq_true rfl⟩, Nat.le_of_ble_eq_true rfl⟩ rfl (by decide +kernel) (fun w8 g6 e7 => ?_)
        exact s_lret (pc := 167) rfl (by decide +kernel)
      · refine s_aload_n (pc := 134) (k0 := 0) (i := 0) rfl 0 rfl (by decide +kernel) ?_
        refine s_getJ (pc := 135) (k := 50) c5 ft_X7_394 rfl (by decide +kernel) ?_
        refine s_ldc2 (pc := 138) (v := (60 : Int64)) (index := 274) (gd_of 1214 (by decide +kernel) rfl) (by decide +kernel) ?_
        refine s_aload_n (pc := 141) (k0 := 0) (i := 0) rfl 0 rfl (by decide +kernel) ?_
        refine s_getJ (pc := 142) (k := 51) c5 ft_X7_397 rfl (by decide +kernel) ?_
        refine s_lmul (pc := 145) (by decide +kernel) ?_
        refine s_iload (pc := 146) (i := 4) 4 rfl (by decide +kernel) ?_
        refine s_cSj (pc := 148) [.long (hJ g2 a0 50), .long ((60 : Int64) * (hJ g2 a0 51)), .int a4] (tX7_part (hJ g2 a0 50) ((60 : Int64) * (hJ g2 a0 51)) a4 g2) cw_X7_336 rfl ⟨⟨Nat.le_of_ble_eq_true rfl, Nat.le_of_ble_eq_true rfl⟩, Nat.le_of_ble_eq_true rfl⟩ rfl (by decide +kernel) (fun w11 g9 e10 => ?_)
        refine s_goto (pc := 151) (off := 16) 167 (by decide +kernel) (by decide) ?_
        exact s_lret (pc := 167) rfl (by decide +kernel)
  · refine s_aload_n (pc := 95) (k0 := 0) (i := 0) rfl 0 rfl (by decide +kernel) ?_
    refine s_iload_n (pc := 96) (k0 := 1) (i := 1) rfl 1 rfl (by decide +kernel) ?_
    refine s_iload_n (pc := 97) (k0 := 2) (i := 2) rfl 2 rfl (by decide +kernel) ?_
    refine s_iload_n (pc := 98) (k0 := 3) (i := 3) rfl 3 rfl (by decide +kernel) ?_
    refine s_iload_n (pc := 99) (k0 := 3) (i := 3) rfl 3 rfl (by decide +kernel) ?_
    refine s_aload_n (pc := 100) (k0 := 0) (i := 0) rfl 0 rfl (by decide +kernel) ?_
    refine s_iload_n (pc := 101) (k0 := 2) (i := 2) rfl 2 rfl (by decide +kernel) ?_
    refine s_iload (pc := 102) (i := 5) 5 rfl (by decide +kernel) ?_
    have c12 := kp e3 c1 (by decide)
    refine s_cVi (pc := 104) [.int a2, .int a5] (tX7_xOf a0 a2 a5 g2) c12 cw_X7_174 rfl ⟨⟨Nat.le_of_ble_eq_true rfl, Nat.le_of_ble_eq_true rfl⟩, Nat.le_of_ble_eq_true rfl⟩ rfl (by decide +kernel) (fun w15 g13 e14 => ?_)
    refine s_isub (pc := 107) (by decide +kernel) ?_
    have c16 := kp e14 c12 (by decide)
    refine s_cVv (pc := 108) [.int a1, .int a2, .int a3, .int (a3 - w15)] (tX7_tries a0 a1 a2 a3 (a3 - w15) g13) c16 cw_X7_403 rfl ⟨⟨Nat.le_of_ble_eq_true rfl, Nat.le_of_ble_eq_true rfl⟩, Nat.le_of_ble_eq_true rfl⟩ rfl (by decide +kernel) (fun _ g17 e18 => ?_)
    refine s_iinc (pc := 111) (L' := [(5, .int (a5 + (1 : Int32))), (0, .ref a0), (1, .int a1), (2, .int a2), (3, .int a3), (4, .int a4)]) (i := 5) (n := 1) 5 rfl rfl (by decide) rfl (by decide +kernel) ?_
    refine s_nmI0 (e := a5 + (1 : Int32)) (L := fun v19 => [(5, .int v19), (0, .ref a0), (1, .int a1), (2, .int a2), (3, .int a3), (4, .int a4)]) (fun v19 => ?_)
    refine s_goto (pc := 114) (off := -29) 85 (by decide +kernel) (by decide) ?_
    refine S_sub [1, 2, 3, 4, 5, 0] rfl ?_
    exact hr85 a0 a1 a2 a3 a4 v19 g17
theorem pX7_split_l85 {h0 : xH}   : ∀ (k : Nat)  (a0 : Nat) (a1 : Int32) (a2 : Int32) (a3 : Int32) (a4 : Int32) (a5 : Int32) (h : xH), S emJ kX7_split h0 85 [(0, .ref a0), (1, .int a1), (2, .int a2), (3, .int a3), (4, .int a4), (5, .int a5)] [] h (fX7_split_l85  k  a0 a1 a2 a3 a4 a5 h) := by
  intro k
  induction k with
  | zero => intros; exact S_none
  | succ k ih => intro  a0 a1 a2 a3 a4 a5 h; exact pX7_split_b85 ih  a0 a1 a2 a3 a4 a5 h
theorem pX7_split_b52 {h0 : xH} {r52 : Nat → Int32 → Int32 → Int32 → Int32 → Int32 → xH → Option (Int64 × xH)} (hr52 : ∀  (a0 : Nat) (a1 : Int32) (a2 : Int32) (a3 : Int32) (a4 : Int32) (a5 : Int32) (g : xH), S emJ kX7_split h0 52 [(0, .ref a0), (1, .int a1), (2, .int a2), (3, .int a3), (4, .int a4), (5, .int a5)] [] g (r52  a0 a1 a2 a3 a4 a5 g))  (a0 : Nat) (a1 : Int32) (a2 : Int32) (a3 : Int32) (a4 : Int32) (a5 : Int32) (h : xH) : S emJ kX7_split h0 52 [(0, .ref a0), (1, .int a1), (2, .int a2), (3, .int a3), (4, .int a4), (5, .int a5)] [] h (fX7_split_b52 r52 a0 a1 a2 a3 a4 a5 h) := by
  unfold fX7_split_b52
  refine s_iload (pc := 52) (i := 5) 5 rfl (by decide +kernel) ?_
  refine s_aload_n (pc := 54) (k0 := 0) (i := 0) rfl 0 rfl (by decide +kernel) ?_
  refine s_iload_n (pc := 55) (k0 := 1) (i := 1) rfl 1 rfl (by decide +kernel) ?_
  refine S_gd (fun c1 => ?_)
  refine s_cVi (pc := 56) [.int a1] (tX7_many a0 a1 h) c1 cw_X7_168 rfl ⟨⟨Nat.le_of_ble_eq_true rfl, Nat.le_of_ble_eq_true rfl⟩, Nat.le_of_ble_eq_true rfl⟩ rfl (by decide +kernel) (fun w4 g2 e3 => ?_)
  refine s_icmp_ge (pc := 59) (off := 23) 82 (by decide +kernel) (by decide) (fun _ => ?_) (fun _ => ?_)
  · refine s_iconst (pc := 82) (n := 0) (v := (0 : Int32)) (by decide) (by decide +kernel) ?_
    refine s_nmI (fun v5 => ?_)
    refine s_istore (pc := 83) (L' := [(5, .int v5), (0, .ref a0), (1, .int a1), (2, .int a2), (3, .int a3), (4, .int a4)]) (i := 5) (by decide) rfl (by decide +kernel) ?_
    refine S_sub [1, 2, 3, 4, 5, 0] rfl ?_
    exact pX7_split_l85 FU a0 a1 a2 a3 a4 v5 g2
  · refine s_aload_n (pc := 62) (k0 := 0) (i := 0) rfl 0 rfl (by decide +kernel) ?_
    refine s_iload_n (pc := 63) (k0 := 1) (i := 1) rfl 1 rfl (by decide +kernel) ?_
    refine s_iload_n (pc := 64) (k0 := 2) (i := 2) rfl 2 rfl (by decide +kernel) ?_
    refine s_iload_n (pc := 65) (k0 := 3) (i := 3) rfl 3 rfl (by decide +kernel) ?_
    refine s_aload_n (pc := 66) (k0 := 0) (i := 0) rfl 0 rfl (by decide +kernel) ?_
    refine s_iload_n (pc := 67) (k0 := 1) (i := 1) rfl 1 rfl (by decide +kernel) ?_
    refine s_iload (pc := 68) (i := 5) 5 rfl (by decide +kernel) ?_
    have c6 := kp e3 c1 (by decide)
    refine s_cVi (pc := 70) [.int a1, .int a5] (tX7_xOf a0 a1 a5 g2) c6 cw_X7_174 rfl ⟨⟨Nat.le_of_ble_eq_true rfl, Nat.le_of_ble_eq_true rfl⟩, Nat.le_of_ble_eq_true rfl⟩ rfl (by decide +kernel) (fun w9 g7 e8 => ?_)
    have c10 := kp e8 c6 (by decide)
    refine s_cVv (pc := 73) [.int a1, .int a2, .int a3, .int w9] (tX7_tries a0 a1 a2 a3 w9 g7) c10 cw_X7_403 rfl ⟨⟨Nat.le_of_ble_eq_true rfl, Nat.le_of_ble_eq_true rfl⟩, Nat.le_of_ble_eq_true rfl⟩ rfl (by decide +kernel) (fun _ g11 e12 => ?_)
    refine s_iinc (pc := 76) (L' := [(5, .int (a5 + (1 : Int32))), (0, .ref a0), (1, .int a1), (2, .int a2), (3, .int a3), (4, .int a4)]) (i := 5) (n := 1) 5 rfl rfl (by decide) rfl (by decide +kernel) ?_
    refine s_nmI0 (e := a5 + (1 : Int32)) (L := fun v13 => [(5, .int v13), (0, .ref a0), (1, .int a1), (2, .int a2), (3, .int a3), (4, .int a4)]) (fun v13 => ?_)
    refine s_goto (pc := 79) (off := -27) 52 (by decide +kernel) (by decide) ?_
    refine S_sub [1, 2, 3, 4, 5, 0] rfl ?_
    exact hr52 a0 a1 a2 a3 a4 v13 g11
theorem pX7_split_l52 {h0 : xH}   : ∀ (k : Nat)  (a0 : Nat) (a1 : Int32) (a2 : Int32) (a3 : Int32) (a4 : Int32) (a5 : Int32) (h : xH), S emJ kX7_split h0 52 [(0, .ref a0), (1, .int a1), (2, .int a2), (3, .int a3), (4, .int a4), (5, .int a5)] [] h (fX7_split_l52  k  a0 a1 a2 a3 a4 a5 h) := by
  intro k
  induction k with
  | zero => intros; exact S_none
  | succ k ih => intro  a0 a1 a2 a3 a4 a5 h; exact pX7_split_b52 ih  a0 a1 a2 a3 a4 a5 h
theorem pX7_split_e    (a0 : Nat) (a1 : Int32) (a2 : Int32) (a3 : Int32) (a4 : Int32) (h : xH) : S emJ kX7_split h 0 [(0, .ref a0), (1, .int a1), (2, .int a2), (3, .int a3), (4, .int a4)] [] h (fX7_split  a0 a1 a2 a3 a4 h) := by
  unfold fX7_split
  refine s_aload_n (pc := 0) (k0 := 0) (i := 0) rfl 0 rfl (by decide +kernel) ?_
  refine s_iconst (pc := 1) (n := 0) (v := (0 : Int32)) (by decide) (by decide +kernel) ?_
  refine S_gd (fun c1 => ?_)
  refine s_putI (pc := 2) (k := 0) c1 ft_X7_107 (fw_7_0 _ _) rfl rfl (by decide +kernel) ?_
  refine s_nmH (o := h) rfl (fun g2 e3 => ?_)
  refine s_iload_n (pc := 5) (k0 := 1) (i := 1) rfl 1 rfl (by decide +kernel) ?_
  refine s_cSi (pc := 6) [.int a1] (tX7_isStore a1 g2) cw_X7_247 rfl ⟨⟨Nat.le_of_ble_eq_true rfl, Nat.le_of_ble_eq_true rfl⟩, Nat.le_of_ble_eq_true rfl⟩ rfl (by decide +kernel) (fun w6 g4 e5 => ?_)
  refine s_if_eq (pc := 9) (off := 31) 40 (by decide +kernel) (by decide) (fun _ => ?_) (fun _ => ?_)
  · refine s_ldc2 (pc := 40) (v := (-9223372036854775808 : Int64)) (index := 334) (gd_of 1298 (by decide +kernel) rfl) (by decide +kernel) ?_
    exact s_lret (pc := 43) rfl (by decide +kernel)
  · refine s_iload_n (pc := 12) (k0 := 2) (i := 2) rfl 2 rfl (by decide +kernel) ?_
    refine s_cSi (pc := 13) [.int a2] (tX7_isStore a2 g4) cw_X7_247 rfl ⟨⟨Nat.le_of_ble_eq_true rfl, Nat.le_of_ble_eq_true rfl⟩, Nat.le_of_ble_eq_true rfl⟩ rfl (by decide +kernel) (fun w9 g7 e8 => ?_)
    refine s_if_eq (pc := 16) (off := 24) 40 (by decide +kernel) (by decide) (fun _ => ?_) (fun _ => ?_)
    · refine s_ldc2 (pc := 40) (v := (-9223372036854775808 : Int64)) (index := 334) (gd_of 1298 (by decide +kernel) rfl) (by decide +kernel) ?_
      exact s_lret (pc := 43) rfl (by decide +kernel)
    · refine s_iload_n (pc := 19) (k0 := 3) (i := 3) rfl 3 rfl (by decide +kernel) ?_
      refine s_i2l (pc := 20) (by decide +kernel) ?_
      refine s_cSi (pc := 21) [.long a3.toInt64] (tX7_isPlace a3.toInt64 g7) cw_X7_270 rfl ⟨⟨Nat.le_of_ble_eq_true rfl, Nat.le_of_ble_eq_true rfl⟩, Nat.le_of_ble_eq_true rfl⟩ rfl (by decide +kernel) (fun w12 g10 e11 => ?_)
      refine s_if_eq (pc := 24) (off := 16) 40 (by decide +kernel) (by decide) (fun _ => ?_) (fun _ => ?_)
      · refine s_ldc2 (pc := 40) (v := (-9223372036854775808 : Int64)) (index := 334) (gd_of 1298 (by decide +kernel) rfl) (by decide +kernel) ?_
        exact s_lret (pc := 43) rfl (by decide +kernel)
      · refine s_iload (pc := 27) (i := 4) 4 rfl (by decide +kernel) ?_
        refine s_i2l (pc := 29) (by decide +kernel) ?_
        refine s_lconst (pc := 30) (n := 0) (v := (0 : Int64)) (by decide) (by decide +kernel) ?_
        refine s_ldc2 (pc := 31) (v := (3 : Int64)) (index := 361) (gd_of 1334 (by decide +kernel) rfl) (by decide +kernel) ?_
        refine s_cSi (pc := 34) [.long a4.toInt64, .long (0 : Int64), .long (3 : Int64)] (tX7_in a4.toInt64 (0 : Int64) (3 : Int64) g10) cw_X7_114 rfl ⟨⟨Nat.le_of_ble_eq_true rfl, Nat.le_of_ble_eq_true rfl⟩, Nat.le_of_ble_eq_true rfl⟩ rfl (by decide +kernel) (fun w15 g13 e14 => ?_)
        refine s_if_ne (pc := 37) (off := 7) 44 (by decide +kernel) (by decide) (fun _ => ?_) (fun _ => ?_)
        · refine s_ldc2 (pc := 40) (v := (-9223372036854775808 : Int64)) (index := 334) (gd_of 1298 (by decide +kernel) rfl) (by decide +kernel) ?_
          exact s_lret (pc := 43) rfl (by decide +kernel)
        · refine s_aload_n (pc := 44) (k0 := 0) (i := 0) rfl 0 rfl (by decide +kernel) ?_
          refine s_iconst (pc := 45) (n := 0) (v := (0 : Int32)) (by decide) (by decide +kernel) ?_
          have c16 := kp (Le.tr e3 (Le.tr e5 (Le.tr e8 (Le.tr e11 e14)))) c1 (by decide)
          refine s_putZ (pc := 46) (k := 53) (by decide) c16 ft_X7_391 (fw_7_53 _ _) rfl rfl (by decide +kernel) ?_
          refine s_nmH (o := g13) rfl (fun g17 e18 => ?_)
          refine s_iconst (pc := 49) (n := 0) (v := (0 : Int32)) (by decide) (by decide +kernel) ?_
          refine s_nmI (fun v19 => ?_)
          refine s_istore (pc := 50) (L' := [(5, .int v19), (0, .ref a0), (1, .int a1), (2, .int a2), (3, .int a3), (4, .int a4)]) (i := 5) (by decide) rfl (by decide +kernel) ?_
          refine S_sub [1, 2, 3, 4, 5, 0] rfl ?_
          exact pX7_split_l52 FU a0 a1 a2 a3 a4 v19 g17
theorem tX7_split (a0 : Nat) (a1 : Int32) (a2 : Int32) (a3 : Int32) (a4 : Int32) (h : xH) : Ct yX7_split kX7_split emJ [.ref a0, .int a1, .int a2, .int a3, .int a4] h (fX7_split a0 a1 a2 a3 a4 h) := Ct_of (by decide +kernel) rfl rfl rfl (Nat.le_of_ble_eq_true rfl) rfl (pX7_split_e a0 a1 a2 a3 a4 h)
def fX7_noteWay_b42  (s0 : Int32) (s1 : Nat)  (h : xH) : Option (Unit × xH) :=
  if s0 = 0 ∨ s0 = 1 then
  if kc h s1 = 7 then
  lt (sI h s1 55 s0) (fun g3 =>
  some ((), g3))
  else none
  else none
def fX7_noteWay_b37  (s0 : Nat)  (h : xH) : Option (Unit × xH) :=
  fX7_noteWay_b42 (1 : Int32) s0 h
def fX7_noteWay_b22  (s0 : Int32) (s1 : Nat) (a0 : Nat) (a1 : Int32) (h : xH) : Option (Unit × xH) :=
  if s0 = 0 ∨ s0 = 1 then
  if kc h s1 = 7 then
  lt (sI h s1 54 s0) (fun g3 =>
  if kc g3 a0 = 7 then
  if (hI g3 a0 55) = 0 then (
  if a1 ≤ 0 then (
  fX7_noteWay_b42 (0 : Int32) a0 g3)
  else (
  fX7_noteWay_b37 a0 g3))
  else (
  fX7_noteWay_b37 a0 g3)
  else none)
  else none
  else none
def fX7_noteWay_b17  (s0 : Nat) (a0 : Nat) (a1 : Int32) (h : xH) : Option (Unit × xH) :=
  fX7_noteWay_b22 (1 : Int32) s0 a0 a1 h
def fX7_noteWay   (a0 : Nat) (a1 : Int32) (h : xH) : Option (Unit × xH) :=
  if kc h a0 = 7 then
  lt (sI h a0 56 (1 : Int32)) (fun g2 =>
  if (hI g2 a0 54) = 0 then (
  if 0 ≤ a1 then (
  fX7_noteWay_b22 (0 : Int32) a0 a0 a1 g2)
  else (
  fX7_noteWay_b17 a0 a0 a1 g2))
  else (
  fX7_noteWay_b17 a0 a0 a1 g2))
  else none
theorem pX7_noteWay_b42 {h0 : xH}   (s0 : Int32) (s1 : Nat)  (h : xH) : S emV kX7_noteWay h0 42 [] [.int s0, .ref s1] h (fX7_noteWay_b42 s0 s1 h) := by
  unfold fX7_noteWay_b42
  refine S_gd (fun c1 => ?_)
  refine S_gd (fun c2 => ?_)
  refine s_putZ (pc := 42) (k := 55) c1 c2 ft_X7_413 (fw_7_55 _ _) rfl rfl (by decide +kernel) ?_
  refine s_nmH (o := h) rfl (fun g3 e4 => ?_)
  exact s_vret (pc := 45) rfl (by decide +kernel)
theorem pX7_noteWay_b37 {h0 : xH}   (s0 : Nat)  (h : xH) : S emV kX7_noteWay h0 37 [] [.ref s0] h (fX7_noteWay_b37 s0 h) := by
  unfold fX7_noteWay_b37
  refine s_iconst (pc := 37) (n := 1) (v := (1 : Int32)) (by decide) (by decide +kernel) ?_
  refine s_goto (pc := 38) (off := 4) 42 (by decide +kernel) (by decide) ?_
  exact pX7_noteWay_b42 (1 : Int32) s0 h
theorem pX7_noteWay_b22 {h0 : xH}   (s0 : Int32) (s1 : Nat) (a0 : Nat) (a1 : Int32) (h : xH) : S emV kX7_noteWay h0 22 [(0, .ref a0), (1, .int a1)] [.int s0, .ref s1] h (fX7_noteWay_b22 s0 s1 a0 a1 h) := by
  unfold fX7_noteWay_b22
  refine S_gd (fun c1 => ?_)
  refine S_gd (fun c2 => ?_)
  refine s_putZ (pc := 22) (k := 54) c1 c2 ft_X7_410 (fw_7_54 _ _) rfl rfl (by decide +kernel) ?_
  refine s_nmH (o := h) rfl (fun g3 e4 => ?_)
  refine s_aload_n (pc := 25) (k0 := 0) (i := 0) rfl 0 rfl (by decide +kernel) ?_
  refine s_aload_n (pc := 26) (k0 := 0) (i := 0) rfl 0 rfl (by decide +kernel) ?_
  refine S_gd (fun c5 => ?_)
  refine s_getI (pc := 27) (k := 55) c5 ft_X7_413 rfl (by decide +kernel) ?_
  refine s_if_ne (pc := 30) (off := 7) 37 (by decide +kernel) (by decide) (fun _ => ?_) (fun _ => ?_)
  · refine s_iload_n (pc := 33) (k0 := 1) (i := 1) rfl 1 rfl (by decide +kernel) ?_
    refine s_if_le (pc := 34) (off := 7) 41 (by decide +kernel) (by decide) (fun _ => ?_) (fun _ => ?_)
    · refine s_iconst (pc := 41) (n := 0) (v := (0 : Int32)) (by decide) (by decide +kernel) ?_
      refine S_sub [] rfl ?_
      exact pX7_noteWay_b42 (0 : Int32) a0 g3
    · refine S_sub [] rfl ?_
      exact pX7_noteWay_b37 a0 g3
  · refine S_sub [] rfl ?_
    exact pX7_noteWay_b37 a0 g3
theorem pX7_noteWay_b17 {h0 : xH}   (s0 : Nat) (a0 : Nat) (a1 : Int32) (h : xH) : S emV kX7_noteWay h0 17 [(0, .ref a0), (1, .int a1)] [.ref s0] h (fX7_noteWay_b17 s0 a0 a1 h) := by
  unfold fX7_noteWay_b17
  refine s_iconst (pc := 17) (n := 1) (v := (1 : Int32)) (by decide) (by decide +kernel) ?_
  refine s_goto (pc := 18) (off := 4) 22 (by decide +kernel) (by decide) ?_
  exact pX7_noteWay_b22 (1 : Int32) s0 a0 a1 h
theorem pX7_noteWay_e    (a0 : Nat) (a1 : Int32) (h : xH) : S emV kX7_noteWay h 0 [(0, .ref a0), (1, .int a1)] [] h (fX7_noteWay  a0 a1 h) := by
  unfold fX7_noteWay
  refine s_aload_n (pc := 0) (k0 := 0) (i := 0) rfl 0 rfl (by decide +kernel) ?_
  refine s_iconst (pc := 1) (n := 1) (v := (1 : Int32)) (by decide) (by decide +kernel) ?_
  refine S_gd (fun c1 => ?_)
  refine s_putZ (pc := 2) (k := 56) (by decide) c1 ft_X7_407 (fw_7_56 _ _) rfl rfl (by decide +kernel) ?_
  refine s_nmH (o := h) rfl (fun g2 e3 => ?_)
  refine s_aload_n (pc := 5) (k0 := 0) (i := 0) rfl 0 rfl (by decide +kernel) ?_
  refine s_aload_n (pc := 6) (k0 := 0) (i := 0) rfl 0 rfl (by decide +kernel) ?_
  have c4 := kp e3 c1 (by decide)
  refine s_getI (pc := 7) (k := 54) c4 ft_X7_410 rfl (by decide +kernel) ?_
  refine s_if_ne (pc := 10) (off := 7) 17 (by decide +kernel) (by decide) (fun _ => ?_) (fun _ => ?_)
  · refine s_iload_n (pc := 13) (k0 := 1) (i := 1) rfl 1 rfl (by decide +kernel) ?_
    refine s_if_ge (pc := 14) (off := 7) 21 (by decide +kernel) (by decide) (fun _ => ?_) (fun _ => ?_)
    · refine s_iconst (pc := 21) (n := 0) (v := (0 : Int32)) (by decide) (by decide +kernel) ?_
      exact pX7_noteWay_b22 (0 : Int32) a0 a0 a1 g2
    · exact pX7_noteWay_b17 a0 a0 a1 g2
  · exact pX7_noteWay_b17 a0 a0 a1 g2
theorem tX7_noteWay (a0 : Nat) (a1 : Int32) (h : xH) : Ct yX7_noteWay kX7_noteWay emV [.ref a0, .int a1] h (fX7_noteWay a0 a1 h) := Ct_of (by decide +kernel) rfl rfl rfl (Nat.le_of_ble_eq_true rfl) rfl (pX7_noteWay_e a0 a1 h)
def fX7_compare_b137 (r39 : Nat → Int32 → Int32 → Int32 → xH → Option (Int32 × xH))  (a0 : Nat) (a1 : Int32) (a2 : Int32) (a3 : Int32) (h : xH) : Option (Int32 × xH) :=
  lt (a3 + (1 : Int32)) (fun v1 =>
  r39 a0 a1 a2 v1 h)
def fX7_compare_b84 (r39 : Nat → Int32 → Int32 → Int32 → xH → Option (Int32 × xH)) (s0 : Int32) (a0 : Nat) (a1 : Int32) (a2 : Int32) (a3 : Int32) (h : xH) : Option (Int32 × xH) :=
  if kc h a0 = 7 then
  bd (fX7_hasValue a0 a1 s0 h) (fun w4 g2 =>
  if w4 = 0 then (
  fX7_compare_b137 r39 a0 a1 a2 a3 g2)
  else (
  lt (hJ g2 a0 45) (fun v6 =>
  lt (hJ g2 a0 46) (fun v7 =>
  bd (fX7_hasValue a0 a2 s0 g2) (fun w10 g8 =>
  if w10 = 0 then (
  fX7_compare_b137 r39 a0 a1 a2 a3 g8)
  else (
  bd (fX7_lie v6 v7 (hJ g8 a0 45) (hJ g8 a0 46) g8) (fun w14 g12 =>
  bd (fX7_noteWay a0 w14 g12) (fun _ g16 =>
  fX7_compare_b137 r39 a0 a1 a2 a3 g16))))))))
  else none
def fX7_compare_b295 (r166 : Nat → Int32 → Int32 → xH → Option (Int32 × xH)) (r175 : Nat → Int32 → Int32 → Int32 → xH → Option (Int32 × xH))  (a0 : Nat) (a3 : Int32) (a4 : Int32) (a5 : Int32) (h : xH) : Option (Int32 × xH) :=
  lt (a5 + (1 : Int32)) (fun v1 =>
  r175 a0 a3 a4 v1 h)
def fX7_compare_b254 (r166 : Nat → Int32 → Int32 → xH → Option (Int32 × xH)) (r175 : Nat → Int32 → Int32 → Int32 → xH → Option (Int32 × xH)) (s0 : Int32) (a0 : Nat) (a3 : Int32) (a4 : Int32) (a5 : Int32) (a6 : Int32) (h : xH) : Option (Int32 × xH) :=
  if s0 ≤ a6 then (
  fX7_compare_b295 r166 r175 a0 a3 a4 a5 h)
  else (
  if kc h a0 = 7 then
  bd (fX7_lieAt a0 a4 a5 a6.toInt64 (1 : Int64) h) (fun w4 g2 =>
  bd (fX7_noteWay a0 w4 g2) (fun _ g6 =>
  bd (fX7_lieAt a0 a4 a5 s0.toInt64 (1 : Int64) g6) (fun w11 g9 =>
  bd (fX7_noteWay a0 w11 g9) (fun _ g13 =>
  fX7_compare_b295 r166 r175 a0 a3 a4 a5 g13))))
  else none)
def fX7_compare_b218 (r166 : Nat → Int32 → Int32 → xH → Option (Int32 × xH)) (r175 : Nat → Int32 → Int32 → Int32 → xH → Option (Int32 × xH)) (s0 : Int32) (a0 : Nat) (a3 : Int32) (a4 : Int32) (a5 : Int32) (h : xH) : Option (Int32 × xH) :=
  if kc h a0 = 7 then
  if kc h (hR h a0 21) = 8 then
  if ix a4 (kl h (hR h a0 21)) then
  if ix a5 (kl h (hR h a0 21)) then
  if (hI h (hR h a0 21) a5.toNatClampNeg) ≤ (hI h (hR h a0 21) a4.toNatClampNeg) then (
  fX7_compare_b254 r166 r175 (hI h (hR h a0 21) a5.toNatClampNeg) a0 a3 a4 a5 s0 h)
  else (
  fX7_compare_b254 r166 r175 (hI h (hR h a0 21) a4.toNatClampNeg) a0 a3 a4 a5 s0 h)
  else none
  else none
  else none
  else none
def fX7_compare_b175 (r166 : Nat → Int32 → Int32 → xH → Option (Int32 × xH)) (r175 : Nat → Int32 → Int32 → Int32 → xH → Option (Int32 × xH))  (a0 : Nat) (a3 : Int32) (a4 : Int32) (a5 : Int32) (h : xH) : Option (Int32 × xH) :=
  if kc h a0 = 7 then
  if (hI h a0 19) ≤ a5 then (
  lt (a4 + (1 : Int32)) (fun v2 =>
  r166 a0 a3 v2 h))
  else (
  if kc h (hR h a0 20) = 8 then
  if ix a4 (kl h (hR h a0 20)) then
  if ix a5 (kl h (hR h a0 20)) then
  if (hI h (hR h a0 20) a4.toNatClampNeg) ≤ (hI h (hR h a0 20) a5.toNatClampNeg) then (
  fX7_compare_b218 r166 r175 (hI h (hR h a0 20) a5.toNatClampNeg) a0 a3 a4 a5 h)
  else (
  fX7_compare_b218 r166 r175 (hI h (hR h a0 20) a4.toNatClampNeg) a0 a3 a4 a5 h)
  else none
  else none
  else none)
  else none
def fX7_compare_l175 (r166 : Nat → Int32 → Int32 → xH → Option (Int32 × xH)) : Nat → Nat → Int32 → Int32 → Int32 → xH → Option (Int32 × xH)
  | 0 => fun _ _ _ _ _ => none
  | k + 1 => fX7_compare_b175 r166 (fX7_compare_l175 r166 k)
def fX7_compare_b336   (a0 : Nat) (h : xH) : Option (Int32 × xH) :=
  if kc h a0 = 7 then
  if (hI h a0 55) = 0 then (
  if (hI h a0 54) = 0 then (
  some ((0 : Int32), h))
  else (
  some ((-1 : Int32), h)))
  else (
  some ((1 : Int32), h))
  else none
def fX7_compare_b166 (r166 : Nat → Int32 → Int32 → xH → Option (Int32 × xH))  (a0 : Nat) (a3 : Int32) (a4 : Int32) (h : xH) : Option (Int32 × xH) :=
  if a3 ≤ a4 then (
  if kc h a0 = 7 then
  if (hI h a0 56) = 0 then (
  some ((3 : Int32), h))
  else (
  if (hI h a0 54) = 0 then (
  fX7_compare_b336 a0 h)
  else (
  if (hI h a0 55) = 0 then (
  fX7_compare_b336 a0 h)
  else (
  some ((2 : Int32), h))))
  else none)
  else (
  fX7_compare_l175 r166 FU a0 a3 a4 a3 h)
def fX7_compare_l166  : Nat → Nat → Int32 → Int32 → xH → Option (Int32 × xH)
  | 0 => fun _ _ _ _ => none
  | k + 1 => fX7_compare_b166 (fX7_compare_l166  k)
def fX7_compare_b39 (r39 : Nat → Int32 → Int32 → Int32 → xH → Option (Int32 × xH))  (a0 : Nat) (a1 : Int32) (a2 : Int32) (a3 : Int32) (h : xH) : Option (Int32 × xH) :=
  if kc h a0 = 7 then
  bd (fX7_many a0 a1 h) (fun w4 g2 =>
  bd (fX7_many a0 a2 g2) (fun w8 g6 =>
  if (w4 + w8) ≤ a3 then (
  lt (sI g6 a0 19 (0 : Int32)) (fun g10 =>
  bd (fX7_linesOf a0 a1 g10) (fun _ g13 =>
  lt (hI g13 a0 19) (fun v16 =>
  bd (fX7_linesOf a0 a2 g13) (fun _ g17 =>
  lt (0 : Int32) (fun v19 =>
  fX7_compare_l166 FU a0 v16 v19 g17))))))
  else (
  bd (fX7_many a0 a1 g6) (fun w23 g21 =>
  if w23 ≤ a3 then (
  bd (fX7_many a0 a1 g21) (fun w27 g25 =>
  bd (fX7_xOf a0 a2 (a3 - w27) g25) (fun w31 g29 =>
  fX7_compare_b84 r39 w31 a0 a1 a2 a3 g29)))
  else (
  bd (fX7_xOf a0 a1 a3 g21) (fun w35 g33 =>
  fX7_compare_b84 r39 w35 a0 a1 a2 a3 g33))))))
  else none
def fX7_compare_l39  : Nat → Nat → Int32 → Int32 → Int32 → xH → Option (Int32 × xH)
  | 0 => fun _ _ _ _ _ => none
  | k + 1 => fX7_compare_b39 (fX7_compare_l39  k)
def fX7_compare   (a0 : Nat) (a1 : Int32) (a2 : Int32) (h : xH) : Option (Int32 × xH) :=
  if kc h a0 = 7 then
  lt (sI h a0 0 (0 : Int32)) (fun g2 =>
  bd (fX7_isStore a1 g2) (fun w6 g4 =>
  if w6 = 0 then (
  some ((-2 : Int32), g4))
  else (
  bd (fX7_isStore a2 g4) (fun w9 g7 =>
  if w9 = 0 then (
  some ((-2 : Int32), g7))
  else (
  lt (sI g7 a0 54 (0 : Int32)) (fun g11 =>
  lt (sI g11 a0 55 (0 : Int32)) (fun g14 =>
  lt (sI g14 a0 56 (0 : Int32)) (fun g17 =>
  lt (0 : Int32) (fun v19 =>
  fX7_compare_l39 FU a0 a1 a2 v19 g17)))))))))
  else none
theorem pX7_compare_b137 {h0 : xH} {r39 : Nat → Int32 → Int32 → Int32 → xH → Option (Int32 × xH)} (hr39 : ∀  (a0 : Nat) (a1 : Int32) (a2 : Int32) (a3 : Int32) (g : xH), S emI kX7_compare h0 39 [(0, .ref a0), (1, .int a1), (2, .int a2), (3, .int a3)] [] g (r39  a0 a1 a2 a3 g))  (a0 : Nat) (a1 : Int32) (a2 : Int32) (a3 : Int32) (h : xH) : S emI kX7_compare h0 137 [(0, .ref a0), (1, .int a1), (2, .int a2), (3, .int a3)] [] h (fX7_compare_b137 r39 a0 a1 a2 a3 h) := by
  unfold fX7_compare_b137
  refine s_iinc (pc := 137) (L' := [(3, .int (a3 + (1 : Int32))), (0, .ref a0), (1, .int a1), (2, .int a2)]) (i := 3) (n := 1) 3 rfl rfl (by decide) rfl (by decide +kernel) ?_
  refine s_nmI0 (e := a3 + (1 : Int32)) (L := fun v1 => [(3, .int v1), (0, .ref a0), (1, .int a1), (2, .int a2)]) (fun v1 => ?_)
  refine s_goto (pc := 140) (off := -101) 39 (by decide +kernel) (by decide) ?_
  refine S_sub [1, 2, 3, 0] rfl ?_
  exact hr39 a0 a1 a2 v1 h
theorem pX7_compare_b84 {h0 : xH} {r39 : Nat → Int32 → Int32 → Int32 → xH → Option (Int32 × xH)} (hr39 : ∀  (a0 : Nat) (a1 : Int32) (a2 : Int32) (a3 : Int32) (g : xH), S emI kX7_compare h0 39 [(0, .ref a0), (1, .int a1), (2, .int a2), (3, .int a3)] [] g (r39  a0 a1 a2 a3 g)) (s0 : Int32) (a0 : Nat) (a1 : Int32) (a2 : Int32) (a3 : Int32) (h : xH) : S emI kX7_compare h0 84 [(0, .ref a0), (1, .int a1), (2, .int a2), (3, .int a3)] [.int s0] h (fX7_compare_b84 r39 s0 a0 a1 a2 a3 h) := by
  unfold fX7_compare_b84
  refine s_istore (pc := 84) (L' := [(4, .int s0), (0, .ref a0), (1, .int a1), (2, .int a2), (3, .int a3)]) (i := 4) (by decide) rfl (by decide +kernel) ?_
  refine s_aload_n (pc := 86) (k0 := 0) (i := 0) rfl 1 rfl (by decide +kernel) ?_
  refine s_iload_n (pc := 87) (k0 := 1) (i := 1) rfl 2 rfl (by decide +kernel) ?_
  refine s_iload (pc := 88) (i := 4) 0 rfl (by decide +kernel) ?_
  refine S_gd (fun c1 => ?_)
  refine s_cVi (pc := 90) [.int a1, .int s0] (tX7_hasValue a0 a1 s0 h) c1 cw_X7_352 rfl ⟨⟨Nat.le_of_ble_eq_true rfl, Nat.le_of_ble_eq_true rfl⟩, Nat.le_of_ble_eq_true rfl⟩ rfl (by decide +kernel) (fun w4 g2 e3 => ?_)
  refine s_if_eq (pc := 93) (off := 44) 137 (by decide +kernel) (by decide) (fun _ => ?_) (fun _ => ?_)
  · refine S_sub [1, 2, 3, 4] rfl ?_
    exact pX7_compare_b137 hr39 a0 a1 a2 a3 g2
  · refine s_aload_n (pc := 96) (k0 := 0) (i := 0) rfl 1 rfl (by decide +kernel) ?_
    have c5 := kp e3 c1 (by decide)
    refine s_getJ (pc := 97) (k := 45) c5 ft_X7_345 rfl (by decide +kernel) ?_
    refine s_nmJ (fun v6 => ?_)
    refine s_lstore (pc := 100) (L' := [(5, .long v6), (4, .int s0), (0, .ref a0), (1, .int a1), (2, .int a2), (3, .int a3)]) (i := 5) (by decide) rfl (by decide +kernel) ?_
    refine s_aload_n (pc := 102) (k0 := 0) (i := 0) rfl 2 rfl (by decide +kernel) ?_
    refine s_getJ (pc := 103) (k := 46) c5 ft_X7_349 rfl (by decide +kernel) ?_
    refine s_nmJ (fun v7 => ?_)
    refine s_lstore (pc := 106) (L' := [(7, .long v7), (5, .long v6), (4, .int s0), (0, .ref a0), (1, .int a1), (2, .int a2), (3, .int a3)]) (i := 7) (by decide) rfl (by decide +kernel) ?_
    refine s_aload_n (pc := 108) (k0 := 0) (i := 0) rfl 3 rfl (by decide +kernel) ?_
    refine s_iload_n (pc := 109) (k0 := 2) (i := 2) rfl 5 rfl (by decide +kernel) ?_
    refine s_iload (pc := 110) (i := 4) 2 rfl (by decide +kernel) ?_
    refine s_cVi (pc := 112) [.int a2, .int s0] (tX7_hasValue a0 a2 s0 g2) c5 cw_X7_352 rfl ⟨⟨Nat.le_of_ble_eq_true rfl, Nat.le_of_ble_eq_true rfl⟩, Nat.le_of_ble_eq_true rfl⟩ rfl (by decide +kernel) (fun w10 g8 e9 => ?_)
    refine s_if_eq (pc := 115) (off := 22) 137 (by decide +kernel) (by decide) (fun _ => ?_) (fun _ => ?_)
    · refine S_sub [3, 4, 5, 6] rfl ?_
      exact pX7_compare_b137 hr39 a0 a1 a2 a3 g8
    · refine s_aload_n (pc := 118) (k0 := 0) (i := 0) rfl 3 rfl (by decide +kernel) ?_
      refine s_lload (pc := 119) (i := 5) 1 rfl (by decide +kernel) ?_
      refine s_lload (pc := 121) (i := 7) 0 rfl (by decide +kernel) ?_
      refine s_aload_n (pc := 123) (k0 := 0) (i := 0) rfl 3 rfl (by decide +kernel) ?_
      have c11 := kp e9 c5 (by decide)
      refine s_getJ (pc := 124) (k := 45) c11 ft_X7_345 rfl (by decide +kernel) ?_
      refine s_aload_n (pc := 127) (k0 := 0) (i := 0) rfl 3 rfl (by decide +kernel) ?_
      refine s_getJ (pc := 128) (k := 46) c11 ft_X7_349 rfl (by decide +kernel) ?_
      refine s_cSi (pc := 131) [.long v6, .long v7, .long (hJ g8 a0 45), .long (hJ g8 a0 46)] (tX7_lie v6 v7 (hJ g8 a0 45) (hJ g8 a0 46) g8) cw_X7_189 rfl ⟨⟨Nat.le_of_ble_eq_true rfl, Nat.le_of_ble_eq_true rfl⟩, Nat.le_of_ble_eq_true rfl⟩ rfl (by decide +kernel) (fun w14 g12 e13 => ?_)
      have c15 := kp e13 c11 (by decide)
      refine s_cVv (pc := 134) [.int w14] (tX7_noteWay a0 w14 g12) c15 cw_X7_416 rfl ⟨⟨Nat.le_of_ble_eq_true rfl, Nat.le_of_ble_eq_true rfl⟩, Nat.le_of_ble_eq_true rfl⟩ rfl (by decide +kernel) (fun _ g16 e17 => ?_)
      refine S_sub [3, 4, 5, 6] rfl ?_
      exact pX7_compare_b137 hr39 a0 a1 a2 a3 g16
theorem pX7_compare_b295 {h0 : xH} {r166 : Nat → Int32 → Int32 → xH → Option (Int32 × xH)} {r175 : Nat → Int32 → Int32 → Int32 → xH → Option (Int32 × xH)} (hr166 : ∀  (a0 : Nat) (a3 : Int32) (a4 : Int32) (g : xH), S emI kX7_compare h0 166 [(0, .ref a0), (3, .int a3), (4, .int a4)] [] g (r166  a0 a3 a4 g)) (hr175 : ∀  (a0 : Nat) (a3 : Int32) (a4 : Int32) (a5 : Int32) (g : xH), S emI kX7_compare h0 175 [(0, .ref a0), (3, .int a3), (4, .int a4), (5, .int a5)] [] g (r175  a0 a3 a4 a5 g))  (a0 : Nat) (a3 : Int32) (a4 : Int32) (a5 : Int32) (h : xH) : S emI kX7_compare h0 295 [(0, .ref a0), (3, .int a3), (4, .int a4), (5, .int a5)] [] h (fX7_compare_b295 r166 r175 a0 a3 a4 a5 h) := by
  unfold fX7_compare_b295
  refine s_iinc (pc := 295) (L' := [(5, .int (a5 + (1 : Int32))), (0, .ref a0), (3, .int a3), (4, .int a4)]) (i := 5) (n := 1) 3 rfl rfl (by decide) rfl (by decide +kernel) ?_
  refine s_nmI0 (e := a5 + (1 : Int32)) (L := fun v1 => [(5, .int v1), (0, .ref a0), (3, .int a3), (4, .int a4)]) (fun v1 => ?_)
  refine s_goto (pc := 298) (off := -123) 175 (by decide +kernel) (by decide) ?_
  refine S_sub [1, 2, 3, 0] rfl ?_
  exact hr175 a0 a3 a4 v1 h
theorem pX7_compare_b254 {h0 : xH} {r166 : Nat → Int32 → Int32 → xH → Option (Int32 × xH)} {r175 : Nat → Int32 → Int32 → Int32 → xH → Option (Int32 × xH)} (hr166 : ∀  (a0 : Nat) (a3 : Int32) (a4 : Int32) (g : xH), S emI kX7_compare h0 166 [(0, .ref a0), (3, .int a3), (4, .int a4)] [] g (r166  a0 a3 a4 g)) (hr175 : ∀  (a0 : Nat) (a3 : Int32) (a4 : Int32) (a5 : Int32) (g : xH), S emI kX7_compare h0 175 [(0, .ref a0), (3, .int a3), (4, .int a4), (5, .int a5)] [] g (r175  a0 a3 a4 a5 g)) (s0 : Int32) (a0 : Nat) (a3 : Int32) (a4 : Int32) (a5 : Int32) (a6 : Int32) (h : xH) : S emI kX7_compare h0 254 [(0, .ref a0), (3, .int a3), (4, .int a4), (5, .int a5), (6, .int a6)] [.int s0] h (fX7_compare_b254 r166 r175 s0 a0 a3 a4 a5 a6 h) := by
  unfold fX7_compare_b254
  refine s_istore (pc := 254) (L' := [(7, .int s0), (0, .ref a0), (3, .int a3), (4, .int a4), (5, .int a5), (6, .int a6)]) (i := 7) (by decide) rfl (by decide +kernel) ?_
  refine s_iload (pc := 256) (i := 6) 5 rfl (by decide +kernel) ?_
  refine s_iload (pc := 258) (i := 7) 0 rfl (by decide +kernel) ?_
  refine s_icmp_ge (pc := 260) (off := 35) 295 (by decide +kernel) (by decide) (fun _ => ?_) (fun _ => ?_)
  · refine S_sub [1, 2, 3, 4] rfl ?_
    exact pX7_compare_b295 hr166 hr175 a0 a3 a4 a5 h
  · refine s_aload_n (pc := 263) (k0 := 0) (i := 0) rfl 1 rfl (by decide +kernel) ?_
    refine s_aload_n (pc := 264) (k0 := 0) (i := 0) rfl 1 rfl (by decide +kernel) ?_
    refine s_iload (pc := 265) (i := 4) 3 rfl (by decide +kernel) ?_
    refine s_iload (pc := 267) (i := 5) 4 rfl (by decide +kernel) ?_
    refine s_iload (pc := 269) (i := 6) 5 rfl (by decide +kernel) ?_
    refine s_i2l (pc := 271) (by decide +kernel) ?_
    refine s_lconst (pc := 272) (n := 1) (v := (1 : Int64)) (by decide) (by decide +kernel) ?_
    refine S_gd (fun c1 => ?_)
    refine s_cVi (pc := 273) [.int a4, .int a5, .long a6.toInt64, .long (1 : Int64)] (tX7_lieAt a0 a4 a5 a6.toInt64 (1 : Int64) h) c1 cw_X7_196 rfl ⟨⟨Nat.le_of_ble_eq_true rfl, Nat.le_of_ble_eq_true rfl⟩, Nat.le_of_ble_eq_true rfl⟩ rfl (by decide +kernel) (fun w4 g2 e3 => ?_)
    have c5 := kp e3 c1 (by decide)
    refine s_cVv (pc := 276) [.int w4] (tX7_noteWay a0 w4 g2) c5 cw_X7_416 rfl ⟨⟨Nat.le_of_ble_eq_true rfl, Nat.le_of_ble_eq_true rfl⟩, Nat.le_of_ble_eq_true rfl⟩ rfl (by decide +kernel) (fun _ g6 e7 => ?_)
    refine s_aload_n (pc := 279) (k0 := 0) (i := 0) rfl 1 rfl (by decide +kernel) ?_
    refine s_aload_n (pc := 280) (k0 := 0) (i := 0) rfl 1 rfl (by decide +kernel) ?_
    refine s_iload (pc := 281) (i := 4) 3 rfl (by decide +kernel) ?_
    refine s_iload (pc := 283) (i := 5) 4 rfl (by decide +kernel) ?_
    refine s_iload (pc := 285) (i := 7) 0 rfl (by decide +kernel) ?_
    refine s_i2l (pc := 287) (by decide +kernel) ?_
    refine s_lconst (pc := 288) (n := 1) (v := (1 : Int64)) (by decide) (by decide +kernel) ?_
    have c8 := kp e7 c5 (by decide)
    refine s_cVi (pc := 289) [.int a4, .int a5, .long s0.toInt64, .long (1 : Int64)] (tX7_lieAt a0 a4 a5 s0.toInt64 (1 : Int64) g6) c8 cw_X7_196 rfl ⟨⟨Nat.le_of_ble_eq_true rfl, Nat.le_of_ble_eq_true rfl⟩, Nat.le_of_ble_eq_true rfl⟩ rfl (by decide +kernel) (fun w11 g9 e10 => ?_)
    have c12 := kp e10 c8 (by decide)
    refine s_cVv (pc := 292) [.int w11] (tX7_noteWay a0 w11 g9) c12 cw_X7_416 rfl ⟨⟨Nat.le_of_ble_eq_true rfl, Nat.le_of_ble_eq_true rfl⟩, Nat.le_of_ble_eq_true rfl⟩ rfl (by decide +kernel) (fun _ g13 e14 => ?_)
    refine S_sub [1, 2, 3, 4] rfl ?_
    exact pX7_compare_b295 hr166 hr175 a0 a3 a4 a5 g13
theorem pX7_compare_b218 {h0 : xH} {r166 : Nat → Int32 → Int32 → xH → Option (Int32 × xH)} {r175 : Nat → Int32 → Int32 → Int32 → xH → Option (Int32 × xH)} (hr166 : ∀  (a0 : Nat) (a3 : Int32) (a4 : Int32) (g : xH), S emI kX7_compare h0 166 [(0, .ref a0), (3, .int a3), (4, .int a4)] [] g (r166  a0 a3 a4 g)) (hr175 : ∀  (a0 : Nat) (a3 : Int32) (a4 : Int32) (a5 : Int32) (g : xH), S emI kX7_compare h0 175 [(0, .ref a0), (3, .int a3), (4, .int a4), (5, .int a5)] [] g (r175  a0 a3 a4 a5 g)) (s0 : Int32) (a0 : Nat) (a3 : Int32) (a4 : Int32) (a5 : Int32) (h : xH) : S emI kX7_compare h0 218 [(0, .ref a0), (3, .int a3), (4, .int a4), (5, .int a5)] [.int s0] h (fX7_compare_b218 r166 r175 s0 a0 a3 a4 a5 h) := by
  unfold fX7_compare_b218
  refine s_istore (pc := 218) (L' := [(6, .int s0), (0, .ref a0), (3, .int a3), (4, .int a4), (5, .int a5)]) (i := 6) (by decide) rfl (by decide +kernel) ?_
  refine s_aload_n (pc := 220) (k0 := 0) (i := 0) rfl 1 rfl (by decide +kernel) ?_
  refine S_gd (fun c1 => ?_)
  refine s_getR (pc := 221) (k := 21) c1 ft_X7_60 rfl (by decide +kernel) ?_
  refine s_iload (pc := 224) (i := 4) 3 rfl (by decide +kernel) ?_
  refine S_gd (fun c2 => ?_)
  refine S_gd (fun c3 => ?_)
  refine s_iald (pc := 226) c2 c3 (by decide +kernel) ?_
  refine s_aload_n (pc := 227) (k0 := 0) (i := 0) rfl 1 rfl (by decide +kernel) ?_
  refine s_getR (pc := 228) (k := 21) c1 ft_X7_60 rfl (by decide +kernel) ?_
  refine s_iload (pc := 231) (i := 5) 4 rfl (by decide +kernel) ?_
  refine S_gd (fun c4 => ?_)
  refine s_iald (pc := 233) c2 c4 (by decide +kernel) ?_
  refine s_icmp_ge (pc := 234) (off := 13) 247 (by decide +kernel) (by decide) (fun _ => ?_) (fun _ => ?_)
  · refine s_aload_n (pc := 247) (k0 := 0) (i := 0) rfl 1 rfl (by decide +kernel) ?_
    refine s_getR (pc := 248) (k := 21) c1 ft_X7_60 rfl (by decide +kernel) ?_
    refine s_iload (pc := 251) (i := 5) 4 rfl (by decide +kernel) ?_
    refine s_iald (pc := 253) c2 c4 (by decide +kernel) ?_
    refine S_sub [1, 2, 3, 4, 0] rfl ?_
    exact pX7_compare_b254 hr166 hr175 (hI h (hR h a0 21) a5.toNatClampNeg) a0 a3 a4 a5 s0 h
  · refine s_aload_n (pc := 237) (k0 := 0) (i := 0) rfl 1 rfl (by decide +kernel) ?_
    refine s_getR (pc := 238) (k := 21) c1 ft_X7_60 rfl (by decide +kernel) ?_
    refine s_iload (pc := 241) (i := 4) 3 rfl (by decide +kernel) ?_
    refine s_iald (pc := 243) c2 c3 (by decide +kernel) ?_
    refine s_goto (pc := 244) (off := 10) 254 (by decide +kernel) (by decide) ?_
    refine S_sub [1, 2, 3, 4, 0] rfl ?_
    exact pX7_compare_b254 hr166 hr175 (hI h (hR h a0 21) a4.toNatClampNeg) a0 a3 a4 a5 s0 h
theorem pX7_compare_b175 {h0 : xH} {r166 : Nat → Int32 → Int32 → xH → Option (Int32 × xH)} {r175 : Nat → Int32 → Int32 → Int32 → xH → Option (Int32 × xH)} (hr166 : ∀  (a0 : Nat) (a3 : Int32) (a4 : Int32) (g : xH), S emI kX7_compare h0 166 [(0, .ref a0), (3, .int a3), (4, .int a4)] [] g (r166  a0 a3 a4 g)) (hr175 : ∀  (a0 : Nat) (a3 : Int32) (a4 : Int32) (a5 : Int32) (g : xH), S emI kX7_compare h0 175 [(0, .ref a0), (3, .int a3), (4, .int a4), (5, .int a5)] [] g (r175  a0 a3 a4 a5 g))  (a0 : Nat) (a3 : Int32) (a4 : Int32) (a5 : Int32) (h : xH) : S emI kX7_compare h0 175 [(0, .ref a0), (3, .int a3), (4, .int a4), (5, .int a5)] [] h (fX7_compare_b175 r166 r175 a0 a3 a4 a5 h) := by
  unfold fX7_compare_b175
  refine s_iload (pc := 175) (i := 5) 3 rfl (by decide +kernel) ?_
  refine s_aload_n (pc := 177) (k0 := 0) (i := 0) rfl 0 rfl (by decide +kernel) ?_
  refine S_gd (fun c1 => ?_)
  refine s_getI (pc := 178) (k := 19) c1 ft_X7_158 rfl (by decide +kernel) ?_
  refine s_icmp_ge (pc := 181) (off := 120) 301 (by decide +kernel) (by decide) (fun _ => ?_) (fun _ => ?_)
  · refine s_iinc (pc := 301) (L' := [(4, .int (a4 + (1 : Int32))), (0, .ref a0), (3, .int a3), (5, .int a5)]) (i := 4) (n := 1) 2 rfl rfl (by decide) rfl (by decide +kernel) ?_
    refine s_nmI0 (e := a4 + (1 : Int32)) (L := fun v2 => [(4, .int v2), (0, .ref a0), (3, .int a3), (5, .int a5)]) (fun v2 => ?_)
    refine s_goto (pc := 304) (off := -138) 166 (by decide +kernel) (by decide) ?_
    refine S_sub [1, 2, 0] rfl ?_
    exact hr166 a0 a3 v2 h
  · refine s_aload_n (pc := 184) (k0 := 0) (i := 0) rfl 0 rfl (by decide +kernel) ?_
    refine s_getR (pc := 185) (k := 20) c1 ft_X7_57 rfl (by decide +kernel) ?_
    refine s_iload (pc := 188) (i := 4) 2 rfl (by decide +kernel) ?_
    refine S_gd (fun c3 => ?_)
    refine S_gd (fun c4 => ?_)
    refine s_iald (pc := 190) c3 c4 (by decide +kernel) ?_
    refine s_aload_n (pc := 191) (k0 := 0) (i := 0) rfl 0 rfl (by decide +kernel) ?_
    refine s_getR (pc := 192) (k := 20) c1 ft_X7_57 rfl (by decide +kernel) ?_
    refine s_iload (pc := 195) (i := 5) 3 rfl (by decide +kernel) ?_
    refine S_gd (fun c5 => ?_)
    refine s_iald (pc := 197) c3 c5 (by decide +kernel) ?_
    refine s_icmp_le (pc := 198) (off := 13) 211 (by decide +kernel) (by decide) (fun _ => ?_) (fun _ => ?_)
    · refine s_aload_n (pc := 211) (k0 := 0) (i := 0) rfl 0 rfl (by decide +kernel) ?_
      refine s_getR (pc := 212) (k := 20) c1 ft_X7_57 rfl (by decide +kernel) ?_
      refine s_iload (pc := 215) (i := 5) 3 rfl (by decide +kernel) ?_
      refine s_iald (pc := 217) c3 c5 (by decide +kernel) ?_
      exact pX7_compare_b218 hr166 hr175 (hI h (hR h a0 20) a5.toNatClampNeg) a0 a3 a4 a5 h
    · refine s_aload_n (pc := 201) (k0 := 0) (i := 0) rfl 0 rfl (by decide +kernel) ?_
      refine s_getR (pc := 202) (k := 20) c1 ft_X7_57 rfl (by decide +kernel) ?_
      refine s_iload (pc := 205) (i := 4) 2 rfl (by decide +kernel) ?_
      refine s_iald (pc := 207) c3 c4 (by decide +kernel) ?_
      refine s_goto (pc := 208) (off := 10) 218 (by decide +kernel) (by decide) ?_
      exact pX7_compare_b218 hr166 hr175 (hI h (hR h a0 20) a4.toNatClampNeg) a0 a3 a4 a5 h
theorem pX7_compare_l175 {h0 : xH} {r166 : Nat → Int32 → Int32 → xH → Option (Int32 × xH)} (hr166 : ∀  (a0 : Nat) (a3 : Int32) (a4 : Int32) (g : xH), S emI kX7_compare h0 166 [(0, .ref a0), (3, .int a3), (4, .int a4)] [] g (r166  a0 a3 a4 g)) : ∀ (k : Nat)  (a0 : Nat) (a3 : Int32) (a4 : Int32) (a5 : Int32) (h : xH), S emI kX7_compare h0 175 [(0, .ref a0), (3, .int a3), (4, .int a4), (5, .int a5)] [] h (fX7_compare_l175 r166 k  a0 a3 a4 a5 h) := by
  intro k
  induction k with
  | zero => intros; exact S_none
  | succ k ih => intro  a0 a3 a4 a5 h; exact pX7_compare_b175 hr166 ih  a0 a3 a4 a5 h
theorem pX7_compare_b336 {h0 : xH}    (a0 : Nat) (h : xH) : S emI kX7_compare h0 336 [(0, .ref a0)] [] h (fX7_compare_b336  a0 h) := by
  unfold fX7_compare_b336
  refine s_aload_n (pc := 336) (k0 := 0) (i := 0) rfl 0 rfl (by decide +kernel) ?_
  refine S_gd (fun c1 => ?_)
  refine s_getI (pc := 337) (k := 55) c1 ft_X7_413 rfl (by decide +kernel) ?_
  refine s_if_eq (pc := 340) (off := 7) 347 (by decide +kernel) (by decide) (fun _ => ?_) (fun _ => ?_)
  · refine s_aload_n (pc := 347) (k0 := 0) (i := 0) rfl 0 rfl (by decide +kernel) ?_
    refine s_getI (pc := 348) (k := 54) c1 ft_X7_410 rfl (by decide +kernel) ?_
    refine s_if_eq (pc := 351) (off := 7) 358 (by decide +kernel) (by decide) (fun _ => ?_) (fun _ => ?_)
    · refine s_iconst (pc := 358) (n := 0) (v := (0 : Int32)) (by decide) (by decide +kernel) ?_
      exact s_iret (pc := 359) rfl (by decide +kernel)
    · refine s_iconst (pc := 354) (n := -1) (v := (-1 : Int32)) (by decide) (by decide +kernel) ?_
      refine s_goto (pc := 355) (off := 4) 359 (by decide +kernel) (by decide) ?_
      exact s_iret (pc := 359) rfl (by decide +kernel)
  · refine s_iconst (pc := 343) (n := 1) (v := (1 : Int32)) (by decide) (by decide +kernel) ?_
    refine s_goto (pc := 344) (off := 15) 359 (by decide +kernel) (by decide) ?_
    exact s_iret (pc := 359) rfl (by decide +kernel)
theorem pX7_compare_b166 {h0 : xH} {r166 : Nat → Int32 → Int32 → xH → Option (Int32 × xH)} (hr166 : ∀  (a0 : Nat) (a3 : Int32) (a4 : Int32) (g : xH), S emI kX7_compare h0 166 [(0, .ref a0), (3, .int a3), (4, .int a4)] [] g (r166  a0 a3 a4 g))  (a0 : Nat) (a3 : Int32) (a4 : Int32) (h : xH) : S emI kX7_compare h0 166 [(0, .ref a0), (3, .int a3), (4, .int a4)] [] h (fX7_compare_b166 r166 a0 a3 a4 h) := by
  unfold fX7_compare_b166
  refine s_iload (pc := 166) (i := 4) 2 rfl (by decide +kernel) ?_
  refine s_iload_n (pc := 168) (k0 := 3) (i := 3) rfl 1 rfl (by decide +kernel) ?_
  refine s_icmp_ge (pc := 169) (off := 138) 307 (by decide +kernel) (by decide) (fun _ => ?_) (fun _ => ?_)
  · refine s_aload_n (pc := 307) (k0 := 0) (i := 0) rfl 0 rfl (by decide +kernel) ?_
    refine S_gd (fun c1 => ?_)
    refine s_getI (pc := 308) (k := 56) c1 ft_X7_407 rfl (by decide +kernel) ?_
    refine s_if_ne (pc := 311) (off := 7) 318 (by decide +kernel) (by decide) (fun _ => ?_) (fun _ => ?_)
    · refine s_iconst (pc := 314) (n := 3) (v := (3 : Int32)) (by decide) (by decide +kernel) ?_
      refine s_goto (pc := 315) (off := 44) 359 (by decide +kernel) (by decide) ?_
      exact s_iret (pc := 359) rfl (by decide +kernel)
    · refine s_aload_n (pc := 318) (k0 := 0) (i := 0) rfl 0 rfl (by decide +kernel) ?_
      refine s_getI (pc := 319) (k := 54) c1 ft_X7_410 rfl (by decide +kernel) ?_
      refine s_if_eq (pc := 322) (off := 14) 336 (by decide +kernel) (by decide) (fun _ => ?_) (fun _ => ?_)
      · refine S_sub [0] rfl ?_
        exact pX7_compare_b336 a0 h
      · refine s_aload_n (pc := 325) (k0 := 0) (i := 0) rfl 0 rfl (by decide +kernel) ?_
        refine s_getI (pc := 326) (k := 55) c1 ft_X7_413 rfl (by decide +kernel) ?_
        refine s_if_eq (pc := 329) (off := 7) 336 (by decide +kernel) (by decide) (fun _ => ?_) (fun _ => ?_)
        · refine S_sub [0] rfl ?_
          exact pX7_compare_b336 a0 h
        · refine s_iconst (pc := 332) (n := 2) (v := (2 : Int32)) (by decide) (by decide +kernel) ?_
          refine s_goto (pc := 333) (off := 26) 359 (by decide +kernel) (by decide) ?_
          exact s_iret (pc := 359) rfl (by decide +kernel)
  · refine s_iload_n (pc := 172) (k0 := 3) (i := 3) rfl 1 rfl (by decide +kernel) ?_
    refine s_istore (pc := 173) (L' := [(5, .int a3), (0, .ref a0), (3, .int a3), (4, .int a4)]) (i := 5) (by decide) rfl (by decide +kernel) ?_
    refine S_sub [1, 2, 3, 0] rfl ?_
    exact pX7_compare_l175 hr166 FU a0 a3 a4 a3 h
theorem pX7_compare_l166 {h0 : xH}   : ∀ (k : Nat)  (a0 : Nat) (a3 : Int32) (a4 : Int32) (h : xH), S emI kX7_compare h0 166 [(0, .ref a0), (3, .int a3), (4, .int a4)] [] h (fX7_compare_l166  k  a0 a3 a4 h) := by
  intro k
  induction k with
  | zero => intros; exact S_none
  | succ k ih => intro  a0 a3 a4 h; exact pX7_compare_b166 ih  a0 a3 a4 h
theorem pX7_compare_b39 {h0 : xH} {r39 : Nat → Int32 → Int32 → Int32 → xH → Option (Int32 × xH)} (hr39 : ∀  (a0 : Nat) (a1 : Int32) (a2 : Int32) (a3 : Int32) (g : xH), S emI kX7_compare h0 39 [(0, .ref a0), (1, .int a1), (2, .int a2), (3, .int a3)] [] g (r39  a0 a1 a2 a3 g))  (a0 : Nat) (a1 : Int32) (a2 : Int32) (a3 : Int32) (h : xH) : S emI kX7_compare h0 39 [(0, .ref a0), (1, .int a1), (2, .int a2), (3, .int a3)] [] h (fX7_compare_b39 r39 a0 a1 a2 a3 h) := by
  unfold fX7_compare_b39
  refine s_iload_n (pc := 39) (k0 := 3) (i := 3) rfl 3 rfl (by decide +kernel) ?_
  refine s_aload_n (pc := 40) (k0 := 0) (i := 0) rfl 0 rfl (by decide +kernel) ?_
  refine s_iload_n (pc := 41) (k0 := 1) (i := 1) rfl 1 rfl (by decide +kernel) ?_
  refine S_gd (fun c1 => ?_)
  refine s_cVi (pc := 42) [.int a1] (tX7_many a0 a1 h) c1 cw_X7_168 rfl ⟨⟨Nat.le_of_ble_eq_true rfl, Nat.le_of_ble_eq_true rfl⟩, Nat.le_of_ble_eq_true rfl⟩ rfl (by decide +kernel) (fun w4 g2 e3 => ?_)
  refine s_aload_n (pc := 45) (k0 := 0) (i := 0) rfl 0 rfl (by decide +kernel) ?_
  refine s_iload_n (pc := 46) (k0 := 2) (i := 2) rfl 2 rfl (by decide +kernel) ?_
  have c5 := kp e3 c1 (by decide)
  refine s_cVi (pc := 47) [.int a2] (tX7_many a0 a2 g2) c5 cw_X7_168 rfl ⟨⟨Nat.le_of_ble_eq_true rfl, Nat.le_of_ble_eq_true rfl⟩, Nat.le_of_ble_eq_true rfl⟩ rfl (by decide +kernel) (fun w8 g6 e7 => ?_)
  refine s_iadd (pc := 50) (by decide +kernel) ?_
  refine s_icmp_ge (pc := 51) (off := 92) 143 (by decide +kernel) (by decide) (fun _ => ?_) (fun _ => ?_)
  · refine s_aload_n (pc := 143) (k0 := 0) (i := 0) rfl 0 rfl (by decide +kernel) ?_
    refine s_iconst (pc := 144) (n := 0) (v := (0 : Int32)) (by decide) (by decide +kernel) ?_
    have c9 := kp e7 c5 (by decide)
    refine s_putI (pc := 145) (k := 19) c9 ft_X7_158 (fw_7_19 _ _) rfl rfl (by decide +kernel) ?_
    refine s_nmH (o := g6) rfl (fun g10 e11 => ?_)
    refine s_aload_n (pc := 148) (k0 := 0) (i := 0) rfl 0 rfl (by decide +kernel) ?_
    refine s_iload_n (pc := 149) (k0 := 1) (i := 1) rfl 1 rfl (by decide +kernel) ?_
    have c12 := kp e11 c9 (by decide)
    refine s_cVv (pc := 150) [.int a1] (tX7_linesOf a0 a1 g10) c12 cw_X7_251 rfl ⟨⟨Nat.le_of_ble_eq_true rfl, Nat.le_of_ble_eq_true rfl⟩, Nat.le_of_ble_eq_true rfl⟩ rfl (by decide +kernel) (fun _ g13 e14 => ?_)
    refine s_aload_n (pc := 153) (k0 := 0) (i := 0) rfl 0 rfl (by decide +kernel) ?_
    have c15 := kp e14 c12 (by decide)
    refine s_getI (pc := 154) (k := 19) c15 ft_X7_158 rfl (by decide +kernel) ?_
    refine s_nmI (fun v16 => ?_)
    refine s_istore_n (pc := 157) (L' := [(3, .int v16), (0, .ref a0), (1, .int a1), (2, .int a2)]) (k0 := 3) (i := 3) rfl (by decide) rfl (by decide +kernel) ?_
    refine s_aload_n (pc := 158) (k0 := 0) (i := 0) rfl 1 rfl (by decide +kernel) ?_
    refine s_iload_n (pc := 159) (k0 := 2) (i := 2) rfl 3 rfl (by decide +kernel) ?_
    refine s_cVv (pc := 160) [.int a2] (tX7_linesOf a0 a2 g13) c15 cw_X7_251 rfl ⟨⟨Nat.le_of_ble_eq_true rfl, Nat.le_of_ble_eq_true rfl⟩, Nat.le_of_ble_eq_true rfl⟩ rfl (by decide +kernel) (fun _ g17 e18 => ?_)
    refine s_iconst (pc := 163) (n := 0) (v := (0 : Int32)) (by decide) (by decide +kernel) ?_
    refine s_nmI (fun v19 => ?_)
    refine s_istore (pc := 164) (L' := [(4, .int v19), (3, .int v16), (0, .ref a0), (1, .int a1), (2, .int a2)]) (i := 4) (by decide) rfl (by decide +kernel) ?_
    refine S_sub [2, 1, 0] rfl ?_
    exact pX7_compare_l166 FU a0 v16 v19 g17
  · refine s_iload_n (pc := 54) (k0 := 3) (i := 3) rfl 3 rfl (by decide +kernel) ?_
    refine s_aload_n (pc := 55) (k0 := 0) (i := 0) rfl 0 rfl (by decide +kernel) ?_
    refine s_iload_n (pc := 56) (k0 := 1) (i := 1) rfl 1 rfl (by decide +kernel) ?_
    have c20 := kp e7 c5 (by decide)
    refine s_cVi (pc := 57) [.int a1] (tX7_many a0 a1 g6) c20 cw_X7_168 rfl ⟨⟨Nat.le_of_ble_eq_true rfl, Nat.le_of_ble_eq_true rfl⟩, Nat.le_of_ble_eq_true rfl⟩ rfl (by decide +kernel) (fun w23 g21 e22 => ?_)
    refine s_icmp_ge (pc := 60) (off := 12) 72 (by decide +kernel) (by decide) (fun _ => ?_) (fun _ => ?_)
    · refine s_aload_n (pc := 72) (k0 := 0) (i := 0) rfl 0 rfl (by decide +kernel) ?_
      refine s_iload_n (pc := 73) (k0 := 2) (i := 2) rfl 2 rfl (by decide +kernel) ?_
      refine s_iload_n (pc := 74) (k0 := 3) (i := 3) rfl 3 rfl (by decide +kernel) ?_
      refine s_aload_n (pc := 75) (k0 := 0) (i := 0) rfl 0 rfl (by decide +kernel) ?_
      refine s_iload_n (pc := 76) (k0 := 1) (i := 1) rfl 1 rfl (by decide +kernel) ?_
      have c24 := kp e22 c20 (by decide)
      refine s_cVi (pc := 77) [.int a1] (tX7_many a0 a1 g21) c24 cw_X7_168 rfl ⟨⟨Nat.le_of_ble_eq_true rfl, Nat.le_of_ble_eq_true rfl⟩, Nat.le_of_ble_eq_true rfl⟩ rfl (by decide +kernel) (fun w27 g25 e26 => ?_)
      refine s_isub (pc := 80) (by decide +kernel) ?_
      have c28 := kp e26 c24 (by decide)
      refine s_cVi (pc := 81) [.int a2, .int (a3 - w27)] (tX7_xOf a0 a2 (a3 - w27) g25) c28 cw_X7_174 rfl ⟨⟨Nat.le_of_ble_eq_true rfl, Nat.le_of_ble_eq_true rfl⟩, Nat.le_of_ble_eq_true rfl⟩ rfl (by decide +kernel) (fun w31 g29 e30 => ?_)
      exact pX7_compare_b84 hr39 w31 a0 a1 a2 a3 g29
    · refine s_aload_n (pc := 63) (k0 := 0) (i := 0) rfl 0 rfl (by decide +kernel) ?_
      refine s_iload_n (pc := 64) (k0 := 1) (i := 1) rfl 1 rfl (by decide +kernel) ?_
      refine s_iload_n (pc := 65) (k0 := 3) (i := 3) rfl 3 rfl (by decide +kernel) ?_
      have c32 := kp e22 c20 (by decide)
      refine s_cVi (pc := 66) [.int a1, .int a3] (tX7_xOf a0 a1 a3 g21) c32 cw_X7_174 rfl ⟨⟨Nat.le_of_ble_eq_true rfl, Nat.le_of_ble_eq_true rfl⟩, Nat.le_of_ble_eq_true rfl⟩ rfl (by decide +kernel) (fun w35 g33 e34 => ?_)
      refine s_goto (pc := 69) (off := 15) 84 (by decide +kernel) (by decide) ?_
      exact pX7_compare_b84 hr39 w35 a0 a1 a2 a3 g33
theorem pX7_compare_l39 {h0 : xH}   : ∀ (k : Nat)  (a0 : Nat) (a1 : Int32) (a2 : Int32) (a3 : Int32) (h : xH), S emI kX7_compare h0 39 [(0, .ref a0), (1, .int a1), (2, .int a2), (3, .int a3)] [] h (fX7_compare_l39  k  a0 a1 a2 a3 h) := by
  intro k
  induction k with
  | zero => intros; exact S_none
  | succ k ih => intro  a0 a1 a2 a3 h; exact pX7_compare_b39 ih  a0 a1 a2 a3 h
theorem pX7_compare_e    (a0 : Nat) (a1 : Int32) (a2 : Int32) (h : xH) : S emI kX7_compare h 0 [(0, .ref a0), (1, .int a1), (2, .int a2)] [] h (fX7_compare  a0 a1 a2 h) := by
  unfold fX7_compare
  refine s_aload_n (pc := 0) (k0 := 0) (i := 0) rfl 0 rfl (by decide +kernel) ?_
  refine s_iconst (pc := 1) (n := 0) (v := (0 : Int32)) (by decide) (by decide +kernel) ?_
  refine S_gd (fun c1 => ?_)
  refine s_putI (pc := 2) (k := 0) c1 ft_X7_107 (fw_7_0 _ _) rfl rfl (by decide +kernel) ?_
  refine s_nmH (o := h) rfl (fun g2 e3 => ?_)
  refine s_iload_n (pc := 5) (k0 := 1) (i := 1) rfl 1 rfl (by decide +kernel) ?_
  refine s_cSi (pc := 6) [.int a1] (tX7_isStore a1 g2) cw_X7_247 rfl ⟨⟨Nat.le_of_ble_eq_true rfl, Nat.le_of_ble_eq_true rfl⟩, Nat.le_of_ble_eq_true rfl⟩ rfl (by decide +kernel) (fun w6 g4 e5 => ?_)
  refine s_if_eq (pc := 9) (off := 10) 19 (by decide +kernel) (by decide) (fun _ => ?_) (fun _ => ?_)
  · refine s_bipush (pc := 19) (n := -2) (v := (-2 : Int32)) (by decide) (by decide +kernel) ?_
    exact s_iret (pc := 21) rfl (by decide +kernel)
  · refine s_iload_n (pc := 12) (k0 := 2) (i := 2) rfl 2 rfl (by decide +kernel) ?_
    refine s_cSi (pc := 13) [.int a2] (tX7_isStore a2 g4) cw_X7_247 rfl ⟨⟨Nat.le_of_ble_eq_true rfl, Nat.le_of_ble_eq_true rfl⟩, Nat.le_of_ble_eq_true rfl⟩ rfl (by decide +kernel) (fun w9 g7 e8 => ?_)
    refine s_if_ne (pc := 16) (off := 6) 22 (by decide +kernel) (by decide) (fun _ => ?_) (fun _ => ?_)
    · refine s_bipush (pc := 19) (n := -2) (v := (-2 : Int32)) (by decide) (by decide +kernel) ?_
      exact s_iret (pc := 21) rfl (by decide +kernel)
    · refine s_aload_n (pc := 22) (k0 := 0) (i := 0) rfl 0 rfl (by decide +kernel) ?_
      refine s_iconst (pc := 23) (n := 0) (v := (0 : Int32)) (by decide) (by decide +kernel) ?_
      have c10 := kp (Le.tr e3 (Le.tr e5 e8)) c1 (by decide)
      refine s_putZ (pc := 24) (k := 54) (by decide) c10 ft_X7_410 (fw_7_54 _ _) rfl rfl (by decide +kernel) ?_
      refine s_nmH (o := g7) rfl (fun g11 e12 => ?_)
      refine s_aload_n (pc := 27) (k0 := 0) (i := 0) rfl 0 rfl (by decide +kernel) ?_
      refine s_iconst (pc := 28) (n := 0) (v := (0 : Int32)) (by decide) (by decide +kernel) ?_
      have c13 := kp e12 c10 (by decide)
      refine s_putZ (pc := 29) (k := 55) (by decide) c13 ft_X7_413 (fw_7_55 _ _) rfl rfl (by decide +kernel) ?_
      refine s_nmH (o := g11) rfl (fun g14 e15 => ?_)
      refine s_aload_n (pc := 32) (k0 := 0) (i := 0) rfl 0 rfl (by decide +kernel) ?_
      refine s_iconst (pc := 33) (n := 0) (v := (0 : Int32)) (by decide) (by decide +kernel) ?_
      have c16 := kp e15 c13 (by decide)
      refine s_putZ (pc := 34) (k := 56) (by decide) c16 ft_X7_407 (fw_7_56 _ _) rfl rfl (by decide +kernel) ?_
      refine s_nmH (o := g14) rfl (fun g17 e18 => ?_)
      refine s_iconst (pc := 37) (n := 0) (v := (0 : Int32)) (by decide) (by decide +kernel) ?_
      refine s_nmI (fun v19 => ?_)
      refine s_istore_n (pc := 38) (L' := [(3, .int v19), (0, .ref a0), (1, .int a1), (2, .int a2)]) (k0 := 3) (i := 3) rfl (by decide) rfl (by decide +kernel) ?_
      refine S_sub [1, 2, 3, 0] rfl ?_
      exact pX7_compare_l39 FU a0 a1 a2 v19 g17
theorem tX7_compare (a0 : Nat) (a1 : Int32) (a2 : Int32) (h : xH) : Ct yX7_compare kX7_compare emI [.ref a0, .int a1, .int a2] h (fX7_compare a0 a1 a2 h) := Ct_of (by decide +kernel) rfl rfl rfl (Nat.le_of_ble_eq_true rfl) rfl (pX7_compare_e a0 a1 a2 h)
def fX7_paperParts_b27 (r4 : Nat → Int32 → Int32 → xH → Option (Int32 × xH)) (s0 : Int32) (s1 : Int32) (a0 : Nat) (a2 : Int32) (h : xH) : Option (Int32 × xH) :=
  lt (s1 + s0) (fun v1 =>
  lt (a2 + (1 : Int32)) (fun v2 =>
  r4 a0 v1 v2 h))
def fX7_paperParts_b4 (r4 : Nat → Int32 → Int32 → xH → Option (Int32 × xH))  (a0 : Nat) (a1 : Int32) (a2 : Int32) (h : xH) : Option (Int32 × xH) :=
  if kc h a0 = 7 then
  if (hI h a0 4) ≤ a2 then (
  some (a1, h))
  else (
  if kc h (hR h a0 6) = 10 then
  if ix a2 (kl h (hR h a0 6)) then
  if (hI h (hR h a0 6) a2.toNatClampNeg) = 0 then (
  fX7_paperParts_b27 r4 (1 : Int32) a1 a0 a2 h)
  else (
  fX7_paperParts_b27 r4 (0 : Int32) a1 a0 a2 h)
  else none
  else none)
  else none
def fX7_paperParts_l4  : Nat → Nat → Int32 → Int32 → xH → Option (Int32 × xH)
  | 0 => fun _ _ _ _ => none
  | k + 1 => fX7_paperParts_b4 (fX7_paperParts_l4  k)
def fX7_paperParts   (a0 : Nat) (h : xH) : Option (Int32 × xH) :=
  lt (0 : Int32) (fun v1 =>
  lt (0 : Int32) (fun v2 =>
  fX7_paperParts_l4 FU a0 v1 v2 h))
theorem pX7_paperParts_b27 {h0 : xH} {r4 : Nat → Int32 → Int32 → xH → Option (Int32 × xH)} (hr4 : ∀  (a0 : Nat) (a1 : Int32) (a2 : Int32) (g : xH), S emI kX7_paperParts h0 4 [(0, .ref a0), (1, .int a1), (2, .int a2)] [] g (r4  a0 a1 a2 g)) (s0 : Int32) (s1 : Int32) (a0 : Nat) (a2 : Int32) (h : xH) : S emI kX7_paperParts h0 27 [(0, .ref a0), (2, .int a2)] [.int s0, .int s1] h (fX7_paperParts_b27 r4 s0 s1 a0 a2 h) := by
  unfold fX7_paperParts_b27
  refine s_iadd (pc := 27) (by decide +kernel) ?_
  refine s_nmI (fun v1 => ?_)
  refine s_istore_n (pc := 28) (L' := [(1, .int v1), (0, .ref a0), (2, .int a2)]) (k0 := 1) (i := 1) rfl (by decide) rfl (by decide +kernel) ?_
  refine s_iinc (pc := 29) (L' := [(2, .int (a2 + (1 : Int32))), (1, .int v1), (0, .ref a0)]) (i := 2) (n := 1) 2 rfl rfl (by decide) rfl (by decide +kernel) ?_
  refine s_nmI0 (e := a2 + (1 : Int32)) (L := fun v2 => [(2, .int v2), (1, .int v1), (0, .ref a0)]) (fun v2 => ?_)
  refine s_goto (pc := 32) (off := -28) 4 (by decide +kernel) (by decide) ?_
  refine S_sub [2, 1, 0] rfl ?_
  exact hr4 a0 v1 v2 h
theorem pX7_paperParts_b4 {h0 : xH} {r4 : Nat → Int32 → Int32 → xH → Option (Int32 × xH)} (hr4 : ∀  (a0 : Nat) (a1 : Int32) (a2 : Int32) (g : xH), S emI kX7_paperParts h0 4 [(0, .ref a0), (1, .int a1), (2, .int a2)] [] g (r4  a0 a1 a2 g))  (a0 : Nat) (a1 : Int32) (a2 : Int32) (h : xH) : S emI kX7_paperParts h0 4 [(0, .ref a0), (1, .int a1), (2, .int a2)] [] h (fX7_paperParts_b4 r4 a0 a1 a2 h) := by
  unfold fX7_paperParts_b4
  refine s_iload_n (pc := 4) (k0 := 2) (i := 2) rfl 2 rfl (by decide +kernel) ?_
  refine s_aload_n (pc := 5) (k0 := 0) (i := 0) rfl 0 rfl (by decide +kernel) ?_
  refine S_gd (fun c1 => ?_)
  refine s_getI (pc := 6) (k := 4) c1 ft_X7_125 rfl (by decide +kernel) ?_
  refine s_icmp_ge (pc := 9) (off := 26) 35 (by decide +kernel) (by decide) (fun _ => ?_) (fun _ => ?_)
  · refine s_iload_n (pc := 35) (k0 := 1) (i := 1) rfl 1 rfl (by decide +kernel) ?_
    exact s_iret (pc := 36) rfl (by decide +kernel)
  · refine s_iload_n (pc := 12) (k0 := 1) (i := 1) rfl 1 rfl (by decide +kernel) ?_
    refine s_aload_n (pc := 13) (k0 := 0) (i := 0) rfl 0 rfl (by decide +kernel) ?_
    refine s_getR (pc := 14) (k := 6) c1 ft_X7_22 rfl (by decide +kernel) ?_
    refine s_iload_n (pc := 17) (k0 := 2) (i := 2) rfl 2 rfl (by decide +kernel) ?_
    refine S_gd (fun c2 => ?_)
    refine S_gd (fun c3 => ?_)
    refine s_zald (pc := 18) c2 c3 (by decide +kernel) ?_
    refine s_if_eq (pc := 19) (off := 7) 26 (by decide +kernel) (by decide) (fun _ => ?_) (fun _ => ?_)
    · refine s_iconst (pc := 26) (n := 1) (v := (1 : Int32)) (by decide) (by decide +kernel) ?_
      refine S_sub [0, 2] rfl ?_
      exact pX7_paperParts_b27 hr4 (1 : Int32) a1 a0 a2 h
    · refine s_iconst (pc := 22) (n := 0) (v := (0 : Int32)) (by decide) (by decide +kernel) ?_
      refine s_goto (pc := 23) (off := 4) 27 (by decide +kernel) (by decide) ?_
      refine S_sub [0, 2] rfl ?_
      exact pX7_paperParts_b27 hr4 (0 : Int32) a1 a0 a2 h
theorem pX7_paperParts_l4 {h0 : xH}   : ∀ (k : Nat)  (a0 : Nat) (a1 : Int32) (a2 : Int32) (h : xH), S emI kX7_paperParts h0 4 [(0, .ref a0), (1, .int a1), (2, .int a2)] [] h (fX7_paperParts_l4  k  a0 a1 a2 h) := by
  intro k
  induction k with
  | zero => intros; exact S_none
  | succ k ih => intro  a0 a1 a2 h; exact pX7_paperParts_b4 ih  a0 a1 a2 h
theorem pX7_paperParts_e    (a0 : Nat) (h : xH) : S emI kX7_paperParts h 0 [(0, .ref a0)] [] h (fX7_paperParts  a0 h) := by
  unfold fX7_paperParts
  refine s_iconst (pc := 0) (n := 0) (v := (0 : Int32)) (by decide) (by decide +kernel) ?_
  refine s_nmI (fun v1 => ?_)
  refine s_istore_n (pc := 1) (L' := [(1, .int v1), (0, .ref a0)]) (k0 := 1) (i := 1) rfl (by decide) rfl (by decide +kernel) ?_
  refine s_iconst (pc := 2) (n := 0) (v := (0 : Int32)) (by decide) (by decide +kernel) ?_
  refine s_nmI (fun v2 => ?_)
  refine s_istore_n (pc := 3) (L' := [(2, .int v2), (1, .int v1), (0, .ref a0)]) (k0 := 2) (i := 2) rfl (by decide) rfl (by decide +kernel) ?_
  refine S_sub [2, 1, 0] rfl ?_
  exact pX7_paperParts_l4 FU a0 v1 v2 h
theorem tX7_paperParts (a0 : Nat) (h : xH) : Ct yX7_paperParts kX7_paperParts emI [.ref a0] h (fX7_paperParts a0 h) := Ct_of (by decide +kernel) rfl rfl rfl (Nat.le_of_ble_eq_true rfl) rfl (pX7_paperParts_e a0 h)
def fX7_count   (a0 : Nat) (a1 : Int32) (h : xH) : Option (Int32 × xH) :=
  if kc h a0 = 7 then
  lt (sI h a0 0 (0 : Int32)) (fun g2 =>
  if a1 = (6 : Int32) then
  (some ((hI g2 a0 4), g2))
  else (
  if a1 = (7 : Int32) then
  (bd (fX7_paperParts a0 g2) (fun w32 g30 =>
  some (w32, g30)))
  else (
  if a1 = (8 : Int32) then
  (bd (fX7_canPut a0 g2) (fun w28 g26 =>
  if w28 = 0 then (
  some ((0 : Int32), g26))
  else (
  some ((1 : Int32), g26))))
  else (
  if a1 = (9 : Int32) then
  (some ((hI g2 a0 12), g2))
  else (
  if a1 = (10 : Int32) then
  (some ((hI g2 a0 36), g2))
  else (
  (bd (fX7_in a1.toInt64 (0 : Int64) (5 : Int64) g2) (fun w6 g4 =>
  if w6 = 0 then (
  bd (fX7_in a1.toInt64 (11 : Int64) (12 : Int64) g4) (fun w9 g7 =>
  if w9 = 0 then (
  bd (fX7_in a1.toInt64 (13 : Int64) (15 : Int64) g7) (fun w12 g10 =>
  if w12 = 0 then (
  some ((-1 : Int32), g10))
  else (
  if kc g10 (hR g10 a0 2) = 8 then
  if ix (a1 - (9 : Int32)) (kl g10 (hR g10 a0 2)) then
  some ((hI g10 (hR g10 a0 2) (a1 - (9 : Int32)).toNatClampNeg), g10)
  else none
  else none)))
  else (
  if kc g7 (hR g7 a0 2) = 8 then
  if ix (a1 - (10 : Int32)) (kl g7 (hR g7 a0 2)) then
  some ((hI g7 (hR g7 a0 2) (a1 - (10 : Int32)).toNatClampNeg), g7)
  else none
  else none)))
  else (
  bd (fX7_many a0 a1 g4) (fun w22 g20 =>
  some (w22, g20)))))))))))
  else none
theorem pX7_count_e    (a0 : Nat) (a1 : Int32) (h : xH) : S emI kX7_count h 0 [(0, .ref a0), (1, .int a1)] [] h (fX7_count  a0 a1 h) := by
  unfold fX7_count
  refine s_aload_n (pc := 0) (k0 := 0) (i := 0) rfl 0 rfl (by decide +kernel) ?_
  refine s_iconst (pc := 1) (n := 0) (v := (0 : Int32)) (by decide) (by decide +kernel) ?_
  refine S_gd (fun c1 => ?_)
  refine s_putI (pc := 2) (k := 0) c1 ft_X7_107 (fw_7_0 _ _) rfl rfl (by decide +kernel) ?_
  refine s_nmH (o := h) rfl (fun g2 e3 => ?_)
  refine s_iload_n (pc := 5) (k0 := 1) (i := 1) rfl 1 rfl (by decide +kernel) ?_
  refine S_ite (fun e => ?_) (fun ne6 => ?_)
  · refine s_tableIn (pc := 6) (dflt := 67) (lo := 6) (hi := 10) (offs := #[34, 39, 44, 57, 62]) (len := 34) (off := 34) 40 (by decide +kernel) (by rw [e]; decide) (by rw [e]; decide) (by rw [e]; rfl) (by decide) ?_
    refine s_aload_n (pc := 40) (k0 := 0) (i := 0) rfl 0 rfl (by decide +kernel) ?_
    have c33 := kp e3 c1 (by decide)
    refine s_getI (pc := 41) (k := 4) c33 ft_X7_125 rfl (by decide +kernel) ?_
    exact s_iret (pc := 44) rfl (by decide +kernel)
  · refine S_ite (fun e => ?_) (fun ne7 => ?_)
    · refine s_tableIn (pc := 6) (dflt := 67) (lo := 6) (hi := 10) (offs := #[34, 39, 44, 57, 62]) (len := 34) (off := 39) 45 (by decide +kernel) (by rw [e]; decide) (by rw [e]; decide) (by rw [e]; rfl) (by decide) ?_
      refine s_aload_n (pc := 45) (k0 := 0) (i := 0) rfl 0 rfl (by decide +kernel) ?_
      have c29 := kp e3 c1 (by decide)
      refine s_cVi (pc := 46) [] (tX7_paperParts a0 g2) c29 cw_X7_419 rfl ⟨⟨Nat.le_of_ble_eq_true rfl, Nat.le_of_ble_eq_true rfl⟩, Nat.le_of_ble_eq_true rfl⟩ rfl (by decide +kernel) (fun w32 g30 e31 => ?_)
      exact s_iret (pc := 49) rfl (by decide +kernel)
    · refine S_ite (fun e => ?_) (fun ne8 => ?_)
      · refine s_tableIn (pc := 6) (dflt := 67) (lo := 6) (hi := 10) (offs := #[34, 39, 44, 57, 62]) (len := 34) (off := 44) 50 (by decide +kernel) (by rw [e]; decide) (by rw [e]; decide) (by rw [e]; rfl) (by decide) ?_
        refine s_aload_n (pc := 50) (k0 := 0) (i := 0) rfl 0 rfl (by decide +kernel) ?_
        have c25 := kp e3 c1 (by decide)
        refine s_cVi (pc := 51) [] (tX7_canPut a0 g2) c25 cw_X7_276 rfl ⟨⟨Nat.le_of_ble_eq_true rfl, Nat.le_of_ble_eq_true rfl⟩, Nat.le_of_ble_eq_true rfl⟩ rfl (by decide +kernel) (fun w28 g26 e27 => ?_)
        refine s_if_eq (pc := 54) (off := 7) 61 (by decide +kernel) (by decide) (fun _ => ?_) (fun _ => ?_)
        · refine s_iconst (pc := 61) (n := 0) (v := (0 : Int32)) (by decide) (by decide +kernel) ?_
          exact s_iret (pc := 62) rfl (by decide +kernel)
        · refine s_iconst (pc := 57) (n := 1) (v := (1 : Int32)) (by decide) (by decide +kernel) ?_
          refine s_goto (pc := 58) (off := 4) 62 (by decide +kernel) (by decide) ?_
          exact s_iret (pc := 62) rfl (by decide +kernel)
      · refine S_ite (fun e => ?_) (fun ne9 => ?_)
        · refine s_tableIn (pc := 6) (dflt := 67) (lo := 6) (hi := 10) (offs := #[34, 39, 44, 57, 62]) (len := 34) (off := 57) 63 (by decide +kernel) (by rw [e]; decide) (by rw [e]; decide) (by rw [e]; rfl) (by decide) ?_
          refine s_aload_n (pc := 63) (k0 := 0) (i := 0) rfl 0 rfl (by decide +kernel) ?_
          have c24 := kp e3 c1 (by decide)
          refine s_getI (pc := 64) (k := 12) c24 ft_X7_131 rfl (by decide +kernel) ?_
          exact s_iret (pc := 67) rfl (by decide +kernel)
        · refine S_ite (fun e => ?_) (fun ne10 => ?_)
          · refine s_tableIn (pc := 6) (dflt := 67) (lo := 6) (hi := 10) (offs := #[34, 39, 44, 57, 62]) (len := 34) (off := 62) 68 (by decide +kernel) (by rw [e]; decide) (by rw [e]; decide) (by rw [e]; rfl) (by decide) ?_
            refine s_aload_n (pc := 68) (k0 := 0) (i := 0) rfl 0 rfl (by decide +kernel) ?_
            have c23 := kp e3 c1 (by decide)
            refine s_getI (pc := 69) (k := 36) c23 ft_X7_283 rfl (by decide +kernel) ?_
            exact s_iret (pc := 72) rfl (by decide +kernel)
          · have tn6 := tb_ne ne6 (n := 6) (by decide)
            have tn7 := tb_ne ne7 (n := 7) (by decide)
            have tn8 := tb_ne ne8 (n := 8) (by decide)
            have tn9 := tb_ne ne9 (n := 9) (by decide)
            have tn10 := tb_ne ne10 (n := 10) (by decide)
            refine s_tableOut (pc := 6) (dflt := 67) (lo := 6) (hi := 10) (offs := #[34, 39, 44, 57, 62]) (len := 34) 73 (by decide +kernel) (by omega) (by decide) ?_
            refine s_iload_n (pc := 73) (k0 := 1) (i := 1) rfl 1 rfl (by decide +kernel) ?_
            refine s_i2l (pc := 74) (by decide +kernel) ?_
            refine s_lconst (pc := 75) (n := 0) (v := (0 : Int64)) (by decide) (by decide +kernel) ?_
            refine s_ldc2 (pc := 76) (v := (5 : Int64)) (index := 152) (gd_of 1070 (by decide +kernel) rfl) (by decide +kernel) ?_
            refine s_cSi (pc := 79) [.long a1.toInt64, .long (0 : Int64), .long (5 : Int64)] (tX7_in a1.toInt64 (0 : Int64) (5 : Int64) g2) cw_X7_114 rfl ⟨⟨Nat.le_of_ble_eq_true rfl, Nat.le_of_ble_eq_true rfl⟩, Nat.le_of_ble_eq_true rfl⟩ rfl (by decide +kernel) (fun w6 g4 e5 => ?_)
            refine s_if_eq (pc := 82) (off := 11) 93 (by decide +kernel) (by decide) (fun _ => ?_) (fun _ => ?_)
            · refine s_iload_n (pc := 93) (k0 := 1) (i := 1) rfl 1 rfl (by decide +kernel) ?_
              refine s_i2l (pc := 94) (by decide +kernel) ?_
              refine s_ldc2 (pc := 95) (v := (11 : Int64)) (index := 422) (gd_of 1404 (by decide +kernel) rfl) (by decide +kernel) ?_
              refine s_ldc2 (pc := 98) (v := (12 : Int64)) (index := 424) (gd_of 1405 (by decide +kernel) rfl) (by decide +kernel) ?_
              refine s_cSi (pc := 101) [.long a1.toInt64, .long (11 : Int64), .long (12 : Int64)] (tX7_in a1.toInt64 (11 : Int64) (12 : Int64) g4) cw_X7_114 rfl ⟨⟨Nat.le_of_ble_eq_true rfl, Nat.le_of_ble_eq_true rfl⟩, Nat.le_of_ble_eq_true rfl⟩ rfl (by decide +kernel) (fun w9 g7 e8 => ?_)
              refine s_if_eq (pc := 104) (off := 15) 119 (by decide +kernel) (by decide) (fun _ => ?_) (fun _ => ?_)
              · refine s_iload_n (pc := 119) (k0 := 1) (i := 1) rfl 1 rfl (by decide +kernel) ?_
                refine s_i2l (pc := 120) (by decide +kernel) ?_
                refine s_ldc2 (pc := 121) (v := (13 : Int64)) (index := 426) (gd_of 1406 (by decide +kernel) rfl) (by decide +kernel) ?_
                refine s_ldc2 (pc := 124) (v := (15 : Int64)) (index := 428) (gd_of 1407 (by decide +kernel) rfl) (by decide +kernel) ?_
                refine s_cSi (pc := 127) [.long a1.toInt64, .long (13 : Int64), .long (15 : Int64)] (tX7_in a1.toInt64 (13 : Int64) (15 : Int64) g7) cw_X7_114 rfl ⟨⟨Nat.le_of_ble_eq_true rfl, Nat.le_of_ble_eq_true rfl⟩, Nat.le_of_ble_eq_true rfl⟩ rfl (by decide +kernel) (fun w12 g10 e11 => ?_)
                refine s_if_eq (pc := 130) (off := 15) 145 (by decide +kernel) (by decide) (fun _ => ?_) (fun _ => ?_)
                · refine s_iconst (pc := 145) (n := -1) (v := (-1 : Int32)) (by decide) (by decide +kernel) ?_
                  exact s_iret (pc := 146) rfl (by decide +kernel)
                · refine s_aload_n (pc := 133) (k0 := 0) (i := 0) rfl 0 rfl (by decide +kernel) ?_
                  have c13 := kp (Le.tr e3 (Le.tr e5 (Le.tr e8 e11))) c1 (by decide)
                  refine s_getR (pc := 134) (k := 2) c13 ft_X7_9 rfl (by decide +kernel) ?_
                  refine s_iload_n (pc := 137) (k0 := 1) (i := 1) rfl 1 rfl (by decide +kernel) ?_
                  refine s_bipush (pc := 138) (n := 9) (v := (9 : Int32)) (by decide) (by decide +kernel) ?_
                  refine s_isub (pc := 140) (by decide +kernel) ?_
                  refine S_gd (fun c14 => ?_)
                  refine S_gd (fun c15 => ?_)
                  refine s_iald (pc := 141) c14 c15 (by decide +kernel) ?_
                  refine s_goto (pc := 142) (off := 4) 146 (by decide +kernel) (by decide) ?_
                  exact s_iret (pc := 146) rfl (by decide +kernel)
              · refine s_aload_n (pc := 107) (k0 := 0) (i := 0) rfl 0 rfl (by decide +kernel) ?_
                have c16 := kp (Le.tr e3 (Le.tr e5 e8)) c1 (by decide)
                refine s_getR (pc := 108) (k := 2) c16 ft_X7_9 rfl (by decide +kernel) ?_
                refine s_iload_n (pc := 111) (k0 := 1) (i := 1) rfl 1 rfl (by decide +kernel) ?_
                refine s_bipush (pc := 112) (n := 10) (v := (10 : Int32)) (by decide) (by decide +kernel) ?_
                refine s_isub (pc := 114) (by decide +kernel) ?_
                refine S_gd (fun c17 => ?_)
                refine S_gd (fun c18 => ?_)
                refine s_iald (pc := 115) c17 c18 (by decide +kernel) ?_
                refine s_goto (pc := 116) (off := 30) 146 (by decide +kernel) (by decide) ?_
                exact s_iret (pc := 146) rfl (by decide +kernel)
            · refine s_aload_n (pc := 85) (k0 := 0) (i := 0) rfl 0 rfl (by decide +kernel) ?_
              refine s_iload_n (pc := 86) (k0 := 1) (i := 1) rfl 1 rfl (by decide +kernel) ?_
              have c19 := kp (Le.tr e3 e5) c1 (by decide)
              refine s_cVi (pc := 87) [.int a1] (tX7_many a0 a1 g4) c19 cw_X7_168 rfl ⟨⟨Nat.le_of_ble_eq_true rfl, Nat.le_of_ble_eq_true rfl⟩, Nat.le_of_ble_eq_true rfl⟩ rfl (by decide +kernel) (fun w22 g20 e21 => ?_)
              refine s_goto (pc := 90) (off := 56) 146 (by decide +kernel) (by decide) ?_
              exact s_iret (pc := 146) rfl (by decide +kernel)
theorem tX7_count (a0 : Nat) (a1 : Int32) (h : xH) : Ct yX7_count kX7_count emI [.ref a0, .int a1] h (fX7_count a0 a1 h) := Ct_of (by decide +kernel) rfl rfl rfl (Nat.le_of_ble_eq_true rfl) rfl (pX7_count_e a0 a1 h)
def fX7_status   (a0 : Nat) (h : xH) : Option (Int32 × xH) :=
  if kc h a0 = 7 then
  lt (sI h a0 0 (0 : Int32)) (fun g2 =>
  some ((hI g2 a0 1), g2))
  else none
theorem pX7_status_e    (a0 : Nat) (h : xH) : S emI kX7_status h 0 [(0, .ref a0)] [] h (fX7_status  a0 h) := by
  unfold fX7_status
  refine s_aload_n (pc := 0) (k0 := 0) (i := 0) rfl 0 rfl (by decide +kernel) ?_
  refine s_iconst (pc := 1) (n := 0) (v := (0 : Int32)) (by decide) (by decide +kernel) ?_
  refine S_gd (fun c1 => ?_)
  refine s_putI (pc := 2) (k := 0) c1 ft_X7_107 (fw_7_0 _ _) rfl rfl (by decide +kernel) ?_
  refine s_nmH (o := h) rfl (fun g2 e3 => ?_)
  refine s_aload_n (pc := 5) (k0 := 0) (i := 0) rfl 0 rfl (by decide +kernel) ?_
  have c4 := kp e3 c1 (by decide)
  refine s_getI (pc := 6) (k := 1) c4 ft_X7_122 rfl (by decide +kernel) ?_
  exact s_iret (pc := 9) rfl (by decide +kernel)
theorem tX7_status (a0 : Nat) (h : xH) : Ct yX7_status kX7_status emI [.ref a0] h (fX7_status a0 h) := Ct_of (by decide +kernel) rfl rfl rfl (Nat.le_of_ble_eq_true rfl) rfl (pX7_status_e a0 h)
