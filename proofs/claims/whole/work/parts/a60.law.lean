/-! THE LAW'S LOOP -/
theorem cal_run {α : Type} [DecidableEq α] {f g : xH → Option (α × xH)} {h : xH} (c : ∃ r h1 h2 S', f h = some (r, h1) ∧ g h1 = some (r, h2) ∧ AOk S' ∧ CSt h2 S' ∧ MSt h2 S') (k6 : kc h 2 = 6) (k7 : ∀ h1 r, g h1 = some r → kc h1 220 = 7) (F : xH → Option (Int32 × xH)) : ∃ h2 S', (if kc h 2 = 6 then bd (f h) (fun w g1 => if kc g1 220 = 7 then bd (g g1) (fun w' g2 => if w = w' then F g2 else some (0, g2)) else none) else none) = F h2 ∧ AOk S' ∧ CSt h2 S' ∧ MSt h2 S' := by
  obtain ⟨r, h1, h2, S', e1, e2, K, C, M⟩ := c
  refine ⟨h2, S', ?_, K, C, M⟩
  rw [if_pos k6, e1, bd_some, if_pos (k7 h1 _ e2), e2, bd_some, if_pos rfl]
theorem lg_self (w : Int64) : lg_cmp w w = 0 := by
  obtain ⟨z, bz', rfl⟩ := i64_ex w
  exact (lz_eq bz' bz').mpr rfl
theorem cal_runJ {f g : xH → Option (Int64 × xH)} {h : xH} (c : ∃ r h1 h2 S', f h = some (r, h1) ∧ g h1 = some (r, h2) ∧ AOk S' ∧ CSt h2 S' ∧ MSt h2 S') (k6 : kc h 2 = 6) (k7 : ∀ h1 r, g h1 = some r → kc h1 220 = 7) (F : xH → Option (Int32 × xH)) : ∃ h2 S', (if kc h 2 = 6 then bd (f h) (fun w g1 => if kc g1 220 = 7 then bd (g g1) (fun w' g2 => if lg_cmp w w' = 0 then F g2 else some (0, g2)) else none) else none) = F h2 ∧ AOk S' ∧ CSt h2 S' ∧ MSt h2 S' := by
  obtain ⟨r, h1, h2, S', e1, e2, K, C, M⟩ := c
  refine ⟨h2, S', ?_, K, C, M⟩
  rw [if_pos k6, e1, bd_some, if_pos (k7 h1 _ e2), e2, bd_some, if_pos (lg_self r)]
theorem CSt.k26 {h : xH} {S : Ast} (C : CSt h S) : kc h 2 = 6 := C.ci0.1.k2
theorem k7_feed {a b c d e : Int32} (h : xH) (r : Int32 × xH) (e : fX7_feed 220 a b c d e h = some r) : kc h 220 = 7 := by
  by_cases c : kc h 220 = 7
  · exact c
  · unfold fX7_feed at e
    rw [if_neg c] at e
    cases e
theorem k7_end {a : Int32} (h : xH) (r : Int32 × xH) (e : fX7_end_ 220 a h = some r) : kc h 220 = 7 := by
  by_cases c : kc h 220 = 7
  · exact c
  · unfold fX7_end_ at e
    rw [if_neg c] at e
    cases e
theorem k7_read {a : Int32} (h : xH) (r : Int32 × xH) (e : fX7_read 220 a h = some r) : kc h 220 = 7 := by
  by_cases c : kc h 220 = 7
  · exact c
  · unfold fX7_read at e
    rw [if_neg c] at e
    cases e
theorem k7_fault (h : xH) (r : Int32 × xH) (e : fX7_fault 220 h = some r) : kc h 220 = 7 := by
  by_cases c : kc h 220 = 7
  · exact c
  · unfold fX7_fault at e
    rw [if_neg c] at e
    cases e
theorem k7_dot {a b c : Int32} (h : xH) (r : Int32 × xH) (e : fX7_dot 220 a b c h = some r) : kc h 220 = 7 := by
  by_cases c : kc h 220 = 7
  · exact c
  · unfold fX7_dot at e
    rw [if_neg c] at e
    cases e
theorem k7_clear {a : Int32} (h : xH) (r : Int32 × xH) (e : fX7_clear 220 a h = some r) : kc h 220 = 7 := by
  by_cases c : kc h 220 = 7
  · exact c
  · unfold fX7_clear at e
    rw [if_neg c] at e
    cases e
theorem k7_sum {a b : Int32} (h : xH) (r : Int32 × xH) (e : fX7_sum 220 a b h = some r) : kc h 220 = 7 := by
  by_cases c : kc h 220 = 7
  · exact c
  · unfold fX7_sum at e
    rw [if_neg c] at e
    cases e
theorem k7_under {a b : Int32} (h : xH) (r : Int32 × xH) (e : fX7_under_ 220 a b h = some r) : kc h 220 = 7 := by
  by_cases c : kc h 220 = 7
  · exact c
  · unfold fX7_under_ at e
    rw [if_neg c] at e
    cases e
theorem k7_join {a b : Int32} (h : xH) (r : Int32 × xH) (e : fX7_join 220 a b h = some r) : kc h 220 = 7 := by
  by_cases c : kc h 220 = 7
  · exact c
  · unfold fX7_join at e
    rw [if_neg c] at e
    cases e
theorem k7_turn {a : Int32} (h : xH) (r : Int32 × xH) (e : fX7_turn 220 a h = some r) : kc h 220 = 7 := by
  by_cases c : kc h 220 = 7
  · exact c
  · unfold fX7_turn at e
    rw [if_neg c] at e
    cases e
theorem k7_hull {a : Int32} (h : xH) (r : Int32 × xH) (e : fX7_hull 220 a h = some r) : kc h 220 = 7 := by
  by_cases c : kc h 220 = 7
  · exact c
  · unfold fX7_hull at e
    rw [if_neg c] at e
    cases e
theorem k7_cut {a b c : Int32} (h : xH) (r : Int32 × xH) (e : fX7_cut 220 a b c h = some r) : kc h 220 = 7 := by
  by_cases c : kc h 220 = 7
  · exact c
  · unfold fX7_cut at e
    rw [if_neg c] at e
    cases e
theorem k7_move {a b c : Int32} (h : xH) (r : Int32 × xH) (e : fX7_move 220 a b c h = some r) : kc h 220 = 7 := by
  by_cases c : kc h 220 = 7
  · exact c
  · unfold fX7_move at e
    rw [if_neg c] at e
    cases e
theorem k7_times {a b : Int32} (h : xH) (r : Int32 × xH) (e : fX7_times 220 a b h = some r) : kc h 220 = 7 := by
  by_cases c : kc h 220 = 7
  · exact c
  · unfold fX7_times at e
    rw [if_neg c] at e
    cases e
theorem k7_lay {a : Int32} (h : xH) (r : Int32 × xH) (e : fX7_lay_ 220 a h = some r) : kc h 220 = 7 := by
  by_cases c : kc h 220 = 7
  · exact c
  · unfold fX7_lay_ at e
    rw [if_neg c] at e
    cases e
theorem k7_put {a : Int32} (h : xH) (r : Int32 × xH) (e : fX7_put 220 a h = some r) : kc h 220 = 7 := by
  by_cases c : kc h 220 = 7
  · exact c
  · unfold fX7_put at e
    rw [if_neg c] at e
    cases e
theorem k7_undo (h : xH) (r : Int32 × xH) (e : fX7_undo 220 h = some r) : kc h 220 = 7 := by
  by_cases c : kc h 220 = 7
  · exact c
  · unfold fX7_undo at e
    rw [if_neg c] at e
    cases e
theorem k7_image {a : Int32} (h : xH) (r : Int32 × xH) (e : fX7_image 220 a h = some r) : kc h 220 = 7 := by
  by_cases c : kc h 220 = 7
  · exact c
  · unfold fX7_image at e
    rw [if_neg c] at e
    cases e
theorem k7_back {a : Int32} (h : xH) (r : Int32 × xH) (e : fX7_back 220 a h = some r) : kc h 220 = 7 := by
  by_cases c : kc h 220 = 7
  · exact c
  · unfold fX7_back at e
    rw [if_neg c] at e
    cases e
theorem k7_paper {a b : Int32} (h : xH) (r : Int64 × xH) (e : fX7_paper 220 a b h = some r) : kc h 220 = 7 := by
  by_cases c : kc h 220 = 7
  · exact c
  · unfold fX7_paper at e
    rw [if_neg c] at e
    cases e
theorem k7_knot {a b c : Int32} (h : xH) (r : Int32 × xH) (e : fX7_knot_ 220 a b c h = some r) : kc h 220 = 7 := by
  by_cases c : kc h 220 = 7
  · exact c
  · unfold fX7_knot_ at e
    rw [if_neg c] at e
    cases e
theorem k7_value {a b c : Int32} (h : xH) (r : Int64 × xH) (e : fX7_value 220 a b c h = some r) : kc h 220 = 7 := by
  by_cases c : kc h 220 = 7
  · exact c
  · unfold fX7_value at e
    rw [if_neg c] at e
    cases e
theorem k7_bits {a b : Int32} (h : xH) (r : Int32 × xH) (e : fX7_bits 220 a b h = some r) : kc h 220 = 7 := by
  by_cases c : kc h 220 = 7
  · exact c
  · unfold fX7_bits at e
    rw [if_neg c] at e
    cases e
theorem k7_limit {a b c : Int32} (h : xH) (r : Int64 × xH) (e : fX7_limit 220 a b c h = some r) : kc h 220 = 7 := by
  by_cases c : kc h 220 = 7
  · exact c
  · unfold fX7_limit at e
    rw [if_neg c] at e
    cases e
theorem k7_of {a b : Int32} (h : xH) (r : Int32 × xH) (e : fX7_of 220 a b h = some r) : kc h 220 = 7 := by
  by_cases c : kc h 220 = 7
  · exact c
  · unfold fX7_of at e
    rw [if_neg c] at e
    cases e
theorem k7_least {a b : Int32} (h : xH) (r : Int32 × xH) (e : fX7_least 220 a b h = some r) : kc h 220 = 7 := by
  by_cases c : kc h 220 = 7
  · exact c
  · unfold fX7_least at e
    rw [if_neg c] at e
    cases e
theorem k7_slope {a b c : Int32} (h : xH) (r : Int64 × xH) (e : fX7_slope 220 a b c h = some r) : kc h 220 = 7 := by
  by_cases c : kc h 220 = 7
  · exact c
  · unfold fX7_slope at e
    rw [if_neg c] at e
    cases e
theorem k7_area {a b : Int32} (h : xH) (r : Int64 × xH) (e : fX7_area 220 a b h = some r) : kc h 220 = 7 := by
  by_cases c : kc h 220 = 7
  · exact c
  · unfold fX7_area at e
    rw [if_neg c] at e
    cases e
theorem k7_where {a b c : Int32} (h : xH) (r : Int64 × xH) (e : fX7_where 220 a b c h = some r) : kc h 220 = 7 := by
  by_cases c : kc h 220 = 7
  · exact c
  · unfold fX7_where at e
    rw [if_neg c] at e
    cases e
theorem k7_places {a b c : Int32} (h : xH) (r : Int32 × xH) (e : fX7_places 220 a b c h = some r) : kc h 220 = 7 := by
  by_cases c : kc h 220 = 7
  · exact c
  · unfold fX7_places at e
    rw [if_neg c] at e
    cases e
theorem k7_split {a b c d : Int32} (h : xH) (r : Int64 × xH) (e : fX7_split 220 a b c d h = some r) : kc h 220 = 7 := by
  by_cases c : kc h 220 = 7
  · exact c
  · unfold fX7_split at e
    rw [if_neg c] at e
    cases e
theorem k7_compare {a b : Int32} (h : xH) (r : Int32 × xH) (e : fX7_compare 220 a b h = some r) : kc h 220 = 7 := by
  by_cases c : kc h 220 = 7
  · exact c
  · unfold fX7_compare at e
    rw [if_neg c] at e
    cases e
theorem k7_count {a : Int32} (h : xH) (r : Int32 × xH) (e : fX7_count 220 a h = some r) : kc h 220 = 7 := by
  by_cases c : kc h 220 = 7
  · exact c
  · unfold fX7_count at e
    rw [if_neg c] at e
    cases e
theorem k7_status (h : xH) (r : Int32 × xH) (e : fX7_status 220 h = some r) : kc h 220 = 7 := by
  by_cases c : kc h 220 = 7
  · exact c
  · unfold fX7_status at e
    rw [if_neg c] at e
    cases e
set_option maxHeartbeats 4000000 in
theorem law_step {n p : Nat} (xs : Nat → Int32) (r18 : Nat → Nat → Int32 → xH → Option (Int32 × xH)) {h : xH} {S : Ast} (K : AOk S) (C : CSt h S) (M : MSt h S) (hn : n ≤ 3072) (hp : p + 6 ≤ n) : ∃ h2 S', fL_law_b18 n xs r18 2 220 (i32 (p : Int)) h = r18 2 220 (i32 ((p + 6 : Nat) : Int)) h2 ∧ AOk S' ∧ CSt h2 S' ∧ MSt h2 S' := by
  have e0 : Int32.ofNat n = i32 (n : Int) := by rfl
  have n0 : ¬ (Int32.ofNat n - (6 : Int32)) < i32 (p : Int) := by
    rw [e0, show (6 : Int32) = i32 6 from rfl, i32_sub]
    intro z
    have := (i32_lt (a := (n : Int) - 6) (b := (p : Int)) ⟨by omega, by omega⟩ ⟨by omega, by omega⟩).mp z
    omega
  have I0 : ix (i32 (p : Int)) n := ix_i (by omega) (by omega) (by omega)
  have I1 : ix (i32 (p : Int) + (1 : Int32)) n := by rw [show (1 : Int32) = i32 1 from rfl, i32_add]; exact ix_i (by omega) (by omega) (by omega)
  have I2 : ix (i32 (p : Int) + (2 : Int32)) n := by rw [show (2 : Int32) = i32 2 from rfl, i32_add]; exact ix_i (by omega) (by omega) (by omega)
  have I3 : ix (i32 (p : Int) + (3 : Int32)) n := by rw [show (3 : Int32) = i32 3 from rfl, i32_add]; exact ix_i (by omega) (by omega) (by omega)
  have I4 : ix (i32 (p : Int) + (4 : Int32)) n := by rw [show (4 : Int32) = i32 4 from rfl, i32_add]; exact ix_i (by omega) (by omega) (by omega)
  have I5 : ix (i32 (p : Int) + (5 : Int32)) n := by rw [show (5 : Int32) = i32 5 from rfl, i32_add]; exact ix_i (by omega) (by omega) (by omega)
  have eF : ∀ g, fL_law_b1293 n xs r18 2 220 (i32 (p : Int)) g = r18 2 220 (i32 ((p + 6 : Nat) : Int)) g := fun g => by
    unfold fL_law_b1293
    rw [lt_def, show (6 : Int32) = i32 6 from rfl, i32_add]
    rfl
  have k6 := C.k26
  suffices hs : ∃ h2 S', fL_law_b18 n xs r18 2 220 (i32 (p : Int)) h = fL_law_b1293 n xs r18 2 220 (i32 (p : Int)) h2 ∧ AOk S' ∧ CSt h2 S' ∧ MSt h2 S' by
    obtain ⟨h2, S', e, r⟩ := hs
    exact ⟨h2, S', e.trans (eF h2), r⟩
  unfold fL_law_b18
  rw [if_neg n0, if_pos I0, lt_def]
  generalize xs (i32 (p : Int)).toNatClampNeg &&& (63 : Int32) = v
  by_cases c0 : v = (0 : Int32)
  · rw [if_pos c0, if_pos I1, if_pos I2, if_pos I3, if_pos I4, if_pos I5]
    exact cal_run ((Cal_feed _ _ _ _ _) h S K C M) k6 k7_feed (fL_law_b1293 n xs r18 2 220 (i32 (p : Int)))
  rw [if_neg c0]
  by_cases c1 : v = (1 : Int32)
  · rw [if_pos c1, if_pos I1]
    exact cal_run ((Cal_end _) h S K C M) k6 k7_end (fL_law_b1293 n xs r18 2 220 (i32 (p : Int)))
  rw [if_neg c1]
  by_cases c2 : v = (2 : Int32)
  · rw [if_pos c2, if_pos I1]
    exact cal_run ((Cal_read _) h S K C M) k6 k7_read (fL_law_b1293 n xs r18 2 220 (i32 (p : Int)))
  rw [if_neg c2]
  by_cases c3 : v = (3 : Int32)
  · rw [if_pos c3]
    exact cal_run ((Cal_fault) h S K C M) k6 k7_fault (fL_law_b1293 n xs r18 2 220 (i32 (p : Int)))
  rw [if_neg c3]
  by_cases c4 : v = (4 : Int32)
  · rw [if_pos c4, if_pos I1, if_pos I2, if_pos I3]
    exact cal_run ((Cal_dot _ _ _) h S K C M) k6 k7_dot (fL_law_b1293 n xs r18 2 220 (i32 (p : Int)))
  rw [if_neg c4]
  by_cases c5 : v = (5 : Int32)
  · rw [if_pos c5, if_pos I1]
    exact cal_run ((Cal_clear _) h S K C M) k6 k7_clear (fL_law_b1293 n xs r18 2 220 (i32 (p : Int)))
  rw [if_neg c5]
  by_cases c6 : v = (6 : Int32)
  · rw [if_pos c6, if_pos I1, if_pos I2]
    exact cal_run ((Cal_sum _ _) h S K C M) k6 k7_sum (fL_law_b1293 n xs r18 2 220 (i32 (p : Int)))
  rw [if_neg c6]
  by_cases c7 : v = (7 : Int32)
  · rw [if_pos c7, if_pos I1, if_pos I2]
    exact cal_run ((Cal_under _ _) h S K C M) k6 k7_under (fL_law_b1293 n xs r18 2 220 (i32 (p : Int)))
  rw [if_neg c7]
  by_cases c8 : v = (8 : Int32)
  · rw [if_pos c8, if_pos I1, if_pos I2]
    exact cal_run ((Cal_join _ _) h S K C M) k6 k7_join (fL_law_b1293 n xs r18 2 220 (i32 (p : Int)))
  rw [if_neg c8]
  by_cases c9 : v = (9 : Int32)
  · rw [if_pos c9, if_pos I1]
    exact cal_run ((Cal_turn _) h S K C M) k6 k7_turn (fL_law_b1293 n xs r18 2 220 (i32 (p : Int)))
  rw [if_neg c9]
  by_cases c10 : v = (10 : Int32)
  · rw [if_pos c10, if_pos I1]
    exact cal_run ((Cal_hull _) h S K C M) k6 k7_hull (fL_law_b1293 n xs r18 2 220 (i32 (p : Int)))
  rw [if_neg c10]
  by_cases c11 : v = (11 : Int32)
  · rw [if_pos c11, if_pos I1, if_pos I2, if_pos I3]
    exact cal_run ((Cal_cut _ _ _) h S K C M) k6 k7_cut (fL_law_b1293 n xs r18 2 220 (i32 (p : Int)))
  rw [if_neg c11]
  by_cases c12 : v = (12 : Int32)
  · rw [if_pos c12, if_pos I1, if_pos I2, if_pos I3]
    exact cal_run ((Cal_move _ _ _) h S K C M) k6 k7_move (fL_law_b1293 n xs r18 2 220 (i32 (p : Int)))
  rw [if_neg c12]
  by_cases c13 : v = (13 : Int32)
  · rw [if_pos c13, if_pos I1, if_pos I2]
    exact cal_run ((Cal_times _ _) h S K C M) k6 k7_times (fL_law_b1293 n xs r18 2 220 (i32 (p : Int)))
  rw [if_neg c13]
  by_cases c14 : v = (14 : Int32)
  · rw [if_pos c14, if_pos I1]
    exact cal_run ((Cal_lay _) h S K C M) k6 k7_lay (fL_law_b1293 n xs r18 2 220 (i32 (p : Int)))
  rw [if_neg c14]
  by_cases c15 : v = (15 : Int32)
  · rw [if_pos c15, if_pos I1]
    exact cal_run ((Cal_put _) h S K C M) k6 k7_put (fL_law_b1293 n xs r18 2 220 (i32 (p : Int)))
  rw [if_neg c15]
  by_cases c16 : v = (16 : Int32)
  · rw [if_pos c16]
    exact cal_run ((Cal_undo) h S K C M) k6 k7_undo (fL_law_b1293 n xs r18 2 220 (i32 (p : Int)))
  rw [if_neg c16]
  by_cases c17 : v = (17 : Int32)
  · rw [if_pos c17, if_pos I1]
    exact cal_run ((Cal_image _) h S K C M) k6 k7_image (fL_law_b1293 n xs r18 2 220 (i32 (p : Int)))
  rw [if_neg c17]
  by_cases c18 : v = (18 : Int32)
  · rw [if_pos c18, if_pos I1]
    exact cal_run ((Cal_back _) h S K C M) k6 k7_back (fL_law_b1293 n xs r18 2 220 (i32 (p : Int)))
  rw [if_neg c18]
  by_cases c19 : v = (19 : Int32)
  · rw [if_pos c19, if_pos I1, if_pos I2]
    exact cal_runJ ((CalJ_of (fun _ Cu => Q_paper Cu _ _)) h S K C M) k6 k7_paper (fL_law_b1293 n xs r18 2 220 (i32 (p : Int)))
  rw [if_neg c19]
  by_cases c20 : v = (20 : Int32)
  · rw [if_pos c20, if_pos I1, if_pos I2, if_pos I3]
    exact cal_run ((Cal_of (fun _ Cu => Q_knot Cu _ _ _)) h S K C M) k6 k7_knot (fL_law_b1293 n xs r18 2 220 (i32 (p : Int)))
  rw [if_neg c20]
  by_cases c21 : v = (21 : Int32)
  · rw [if_pos c21, if_pos I1, if_pos I2, if_pos I3]
    exact cal_runJ ((CalJ_of (fun _ Cu => Q_value Cu _ _ _)) h S K C M) k6 k7_value (fL_law_b1293 n xs r18 2 220 (i32 (p : Int)))
  rw [if_neg c21]
  by_cases c22 : v = (22 : Int32)
  · rw [if_pos c22, if_pos I1, if_pos I2]
    exact cal_run ((Cal_bits _ _) h S K C M) k6 k7_bits (fL_law_b1293 n xs r18 2 220 (i32 (p : Int)))
  rw [if_neg c22]
  by_cases c23 : v = (23 : Int32)
  · rw [if_pos c23, if_pos I1, if_pos I2, if_pos I3]
    exact cal_runJ ((CalJ_of (fun _ Cu => Q_limit Cu _ _ _)) h S K C M) k6 k7_limit (fL_law_b1293 n xs r18 2 220 (i32 (p : Int)))
  rw [if_neg c23]
  by_cases c24 : v = (24 : Int32)
  · rw [if_pos c24, if_pos I1, if_pos I2]
    exact cal_run ((Cal_of (fun _ Cu => Q_of Cu _ _)) h S K C M) k6 k7_of (fL_law_b1293 n xs r18 2 220 (i32 (p : Int)))
  rw [if_neg c24]
  by_cases c25 : v = (25 : Int32)
  · rw [if_pos c25, if_pos I1, if_pos I2]
    exact cal_run ((Cal_of (fun _ Cu => Q_least Cu _ _)) h S K C M) k6 k7_least (fL_law_b1293 n xs r18 2 220 (i32 (p : Int)))
  rw [if_neg c25]
  by_cases c26 : v = (26 : Int32)
  · rw [if_pos c26, if_pos I1, if_pos I2, if_pos I3]
    exact cal_runJ ((CalJ_of (fun _ Cu => Q_slope Cu _ _ _)) h S K C M) k6 k7_slope (fL_law_b1293 n xs r18 2 220 (i32 (p : Int)))
  rw [if_neg c26]
  by_cases c27 : v = (27 : Int32)
  · rw [if_pos c27, if_pos I1, if_pos I2]
    exact cal_runJ ((CalJ_of (fun _ Cu => Q_area Cu _ _)) h S K C M) k6 k7_area (fL_law_b1293 n xs r18 2 220 (i32 (p : Int)))
  rw [if_neg c27]
  by_cases c28 : v = (28 : Int32)
  · rw [if_pos c28, if_pos I1, if_pos I2, if_pos I3]
    exact cal_runJ ((CalJ_of (fun _ Cu => Q_where Cu _ _ _)) h S K C M) k6 k7_where (fL_law_b1293 n xs r18 2 220 (i32 (p : Int)))
  rw [if_neg c28]
  by_cases c29 : v = (29 : Int32)
  · rw [if_pos c29, if_pos I1, if_pos I2, if_pos I3]
    exact cal_run ((Cal_of (fun _ Cu => Q_places Cu _ _ _)) h S K C M) k6 k7_places (fL_law_b1293 n xs r18 2 220 (i32 (p : Int)))
  rw [if_neg c29]
  by_cases c30 : v = (30 : Int32)
  · rw [if_pos c30, if_pos I1, if_pos I2, if_pos I3, if_pos I4]
    exact cal_runJ ((CalJ_of (fun _ Cu => Q_split Cu _ _ _ _)) h S K C M) k6 k7_split (fL_law_b1293 n xs r18 2 220 (i32 (p : Int)))
  rw [if_neg c30]
  by_cases c31 : v = (31 : Int32)
  · rw [if_pos c31, if_pos I1, if_pos I2]
    exact cal_run ((Cal_of (fun _ Cu => Q_compare Cu _ _)) h S K C M) k6 k7_compare (fL_law_b1293 n xs r18 2 220 (i32 (p : Int)))
  rw [if_neg c31]
  by_cases c32 : v = (32 : Int32)
  · rw [if_pos c32, if_pos I1]
    exact cal_run ((Cal_count _) h S K C M) k6 k7_count (fL_law_b1293 n xs r18 2 220 (i32 (p : Int)))
  rw [if_neg c32]
  by_cases c33 : v = (33 : Int32)
  · rw [if_pos c33]
    exact cal_run ((Cal_status) h S K C M) k6 k7_status (fL_law_b1293 n xs r18 2 220 (i32 (p : Int)))
  rw [if_neg c33]
  exact ⟨h, S, rfl, K, C, M⟩
theorem CSt.room {h : xH} {S : Ast} (C : CSt h S) : cnt h ≤ 600000 ∧ siz h ≤ 7302250 := by
  obtain ⟨cap, lst, c1, -, R, -⟩ := C
  have hb : ∀ q, q < 30 → cap q ≤ 3200 := fun q hq => (c1.1.2.1 q hq).2.2.2
  have hs : ∀ m, m ≤ 30 → sumQ cap m ≤ 3200 * (m : Int) := by
    intro m
    induction m with
    | zero => intro _; show (0 : Int) ≤ 3200 * ((0 : Nat) : Int); omega
    | succ m ih =>
      intro hm
      show sumQ cap m + ((cap m : Nat) : Int) ≤ _
      have := ih (by omega)
      have := hb m (by omega)
      omega
  have := hs 30 (by decide)
  obtain ⟨r1, r2⟩ := R
  exact ⟨by omega, by omega⟩
theorem law_loop {n : Nat} (xs : Nat → Int32) (hn : n ≤ 3072) : ∀ (m k p : Nat) (h : xH) (S : Ast), n < p + 6 * m → m ≤ k → p ≤ n + 6 → AOk S → CSt h S → MSt h S → ∃ h', fL_law_l18 n xs (k + 1) 2 220 (i32 (p : Int)) h = some (1, h') ∧ cnt h' ≤ 600000 ∧ siz h' ≤ 7302250 := by
  intro m
  induction m with
  | zero =>
    intro k p h S hm hk hp K C M
    show ∃ h', fL_law_b18 n xs _ 2 220 (i32 (p : Int)) h = _ ∧ _
    unfold fL_law_b18
    have e0 : Int32.ofNat n = i32 (n : Int) := by rfl
    rw [e0, show (6 : Int32) = i32 6 from rfl, i32_sub, if_pos ((i32_lt (a := (n : Int) - 6) (b := (p : Int)) ⟨by omega, by omega⟩ ⟨by omega, by omega⟩).mpr (by omega))]
    exact ⟨h, rfl, C.room⟩
  | succ m ih =>
    intro k p h S hm hk hp K C M
    show ∃ h', fL_law_b18 n xs _ 2 220 (i32 (p : Int)) h = _ ∧ _
    by_cases c : p + 6 ≤ n
    · obtain ⟨h2, S', e, K', C', M'⟩ := law_step xs (fL_law_l18 n xs k) K C M hn c
      rw [e]
      obtain ⟨k', rfl⟩ : ∃ k', k = k' + 1 := ⟨k - 1, by omega⟩
      exact ih k' (p + 6) h2 S' (by omega) (by omega) (by omega) K' C' M'
    · unfold fL_law_b18
      have e0 : Int32.ofNat n = i32 (n : Int) := by rfl
      rw [e0, show (6 : Int32) = i32 6 from rfl, i32_sub, if_pos ((i32_lt (a := (n : Int) - 6) (b := (p : Int)) ⟨by omega, by omega⟩ ⟨by omega, by omega⟩).mpr (by omega))]
      exact ⟨h, rfl, C.room⟩
