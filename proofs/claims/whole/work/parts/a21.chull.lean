/-! HULLS: a store's points; the class -/
def ptK (ks : List Kn) (k : Nat) : Pt2 := (kx ks k, ky ks k)
def PtP (ks : List Kn) (n : Nat) (p : Pt2) : Prop := ∃ k, k < n ∧ p = ptK ks k
def hulS (ks : List Kn) : Nat → List Pt2
  | 0 => []
  | k + 1 => stepH (ptK ks k) (hulS ks k)
def edL : List Pt2 → List Spn
  | v :: w :: r => (v.1, v.2, w.1, w.2) :: edL (w :: r)
  | _ => []
def hulC (ks : List Kn) : List Spn := match (hulS ks ks.length).reverse with
  | [] => []
  | v :: r => (v.1, v.2, v.1, v.2) :: edL (v :: r)
def hulM (ks : List Kn) : List Spn := match (hulS ks ks.length).reverse with
  | [] => []
  | [v] => [(v.1, v.2, v.1, v.2)]
  | v :: w :: r => edL (v :: w :: r)
section HC
variable {h : xH} {s cap : Nat} {ks : List Kn}
theorem ptp_s (n : Nat) : PtP ks (n + 1) = PlusP (PtP ks n) (ptK ks n) := by
  funext p
  refine propext ⟨fun z => ?_, fun z => ?_⟩
  · obtain ⟨k, hk, e⟩ := z
    by_cases c : k = n
    · exact Or.inr (by rw [e, c])
    · exact Or.inl ⟨k, by omega, e⟩
  · rcases z with ⟨k, hk, e⟩ | z
    · exact ⟨k, by omega, e⟩
    · exact ⟨n, by omega, z⟩
theorem hul_ok (F : StF ks) : ∀ n, n ≤ ks.length → ChT (PtP ks n) (hulS ks n) ∧ TopT (PtP ks n) (hulS ks n) ∧ (hulS ks n).length ≤ n := by
  intro n
  induction n with
  | zero =>
    intro _
    refine ⟨fun p z => ?_, fun b hb => ?_, Nat.le_refl _⟩
    · obtain ⟨k, hk, _⟩ := z; omega
    · cases hb
  | succ n ih =>
    intro hn
    obtain ⟨i1, i2, i3⟩ := ih (by omega)
    have st := step_ok (q := ptK ks n) i1 i2 (fun p hp => by
      obtain ⟨k, hk, e⟩ := hp
      rw [e]
      exact F.1 k n (by omega) (by omega))
    have sl := step_len (ptK ks n) (hulS ks n)
    rw [ptp_s]
    refine ⟨st.1, st.2, ?_⟩
    show (stepH (ptK ks n) (hulS ks n)).length ≤ n + 1
    omega
/-- at the least x the first knot is the lowest: a lone one that is higher is none -/
theorem can_lo (C : Can ks) {j : Nat} (hj : j < ks.length) (e : kx ks j = kx ks 0) : ky ks 0 ≤ ky ks j := by
  by_cases c0 : j = 0
  · rw [c0]; exact Int.le_refl _
  obtain ⟨k, ka, hq⟩ := po_ka C.2 C.1.2.1 (show 0 < ks.length by omega)
  obtain ⟨k', ka', hq'⟩ := po_ka C.2 C.1.2.1 hj
  rw [e] at ka'
  have hq2 : Kr ks j ∈ k := by rw [KA_one ka ka']; exact hq'
  obtain ⟨a, b, c, ha, hb, hc, ek2⟩ := id ka
  have g0 : kg ks 0 = false := by
    cases g : kg ks 0 with
    | false => rfl
    | true =>
      exfalso
      have n1 := C.1.2.2.2 0 (by omega) g
      have m1 := C.1.2.2.1 1 j (by omega) hj
      rw [Nat.zero_add] at n1
      omega
  have na : a = none := by
    cases a with
    | none => rfl
    | some u =>
      exfalso
      obtain ⟨i, hi, g, cv⟩ := po_covT C.2 C.1.2.1 ha
      unfold cvr bey at cv
      simp at cv
      have h2 := C.1.2.2.1 0 i (by omega) hi
      have h3 : kx ks i < kx ks 0 := by
        have h4 := cv.1
        first
          | exact h4
          | exact_mod_cast h4
      omega
  rw [ek2, na] at hq hq2
  rcases kno_false hq g0 with ⟨u, eu, _⟩ | ⟨hl, v, ev, eq⟩
  · cases eu
  · have y0 : (ky ks 0 : Rat) = v := congrArg (fun q : Kn => q.2.1) eq
    cases g : kg ks j with
    | false =>
      rcases kno_false hq2 g with ⟨u, eu, _⟩ | ⟨_, v', ev', eq'⟩
      · cases eu
      · have y1 : (ky ks j : Rat) = v' := congrArg (fun q : Kn => q.2.1) eq'
        rw [ev] at ev'
        have h3 : (ky ks 0 : Rat) = (ky ks j : Rat) := by rw [y0, y1, Option.some.inj ev']
        have h4 : ky ks 0 = ky ks j := by exact_mod_cast h3
        omega
    | true =>
      obtain ⟨w, ew, eq'⟩ := kno_true hq2 g
      have y1 : (ky ks j : Rat) = w.1 := congrArg (fun q : Kn => q.2.1) eq'
      rw [ev, ew] at hl
      have h2 : v < w.1 := by simpa [loneB] using hl
      have h3 : (ky ks 0 : Rat) < (ky ks j : Rat) := by rw [y0, y1]; exact h2
      have h4 : ky ks 0 < ky ks j := by exact_mod_cast h3
      omega
/-- what hullNext holds, up to a knot -/
def NxP (ks : List Kn) (k j : Nat) (z : Int) : Prop := (z = -1 ∧ ∀ m, m < j → kx ks m ≤ kx ks k) ∨ ∃ n : Nat, z = n ∧ n < j ∧ kx ks k < kx ks n ∧ ∀ m, m < j → kx ks k < kx ks m → 0 ≤ crz (ptK ks k) (ptK ks n) (ptK ks m) ∧ (crz (ptK ks k) (ptK ks n) (ptK ks m) = 0 → kx ks m ≤ kx ks n)
theorem c_hn6 {k : Nat} (W : ShK h s cap ks) (P : StP ks) (F : StF ks) (hk : k < ks.length) : ∀ (d j m : Nat) (z : Int), j + d = ks.length → d < m → NxP ks k j z → ∃ z', fX4_hullNext_l6 m s (i32 (k : Int)) (i32 z) (i32 (j : Int)) h = some (i32 z', h) ∧ NxP ks k ks.length z' := by
  have hc := W.2.2
  have B0 : B64 0 := ⟨by decide, by decide⟩
  have bk := P.b hk
  intro d
  induction d with
  | zero =>
    intro j m z hj hm N
    obtain ⟨m, rfl⟩ : ∃ k, m = k + 1 := ⟨m - 1, by omega⟩
    have ej : j = ks.length := by omega
    refine ⟨z, ?_, by rw [← ej]; exact N⟩
    show fX4_hullNext_b6 _ s _ _ _ h = _
    unfold fX4_hullNext_b6
    rw [if_pos W.1.1, W.2.1.1, if_pos ((i32_le ⟨by omega, by omega⟩ ⟨by omega, by omega⟩).mpr (by omega))]
  | succ d ih =>
    intro j m z hj hm N
    obtain ⟨m, rfl⟩ : ∃ k, m = k + 1 := ⟨m - 1, by omega⟩
    have hjl : j < ks.length := by omega
    have bj := P.b hjl
    have Br : B64 (kx ks j - kx ks k) := ⟨by omega, by omega⟩
    show ∃ z', fX4_hullNext_b6 _ s _ _ _ h = _ ∧ _
    unfold fX4_hullNext_b6 fX4_hullNext_b105
    rw [if_pos W.1.1, W.2.1.1, if_neg (fun z => by have := (i32_le ⟨by omega, by omega⟩ ⟨by omega, by omega⟩).mp z; omega), if_pos W.c1, if_pos (W.x hjl).1, if_pos (W.x hk).1, lt_def, (W.v hjl).1, (W.v hk).1, i64_sub, z64]
    by_cases c1 : kx ks k < kx ks j
    · rw [if_pos ((lz_gt Br B0).mpr (by omega))]
      rcases N with ⟨ez, hall⟩ | ⟨n, ez, hn, hkn, hall⟩
      · rw [ez, if_neg (by decide), lt_def, one32, i32_add, kp1]
        refine ih (j + 1) m (j : Int) (by omega) (by omega) (Or.inr ⟨j, rfl, by omega, c1, fun u hu zu => ?_⟩)
        by_cases cu : u = j
        · rw [cu, crs_self]; exact ⟨by omega, fun _ => by omega⟩
        · have := hall u (by omega); omega
      · have hnl : n < ks.length := by omega
        have bn := P.b hnl
        have m1 := mul_b (M := 11880) (N := 11880) (show -11880 ≤ ky ks j - ky ks k ∧ ky ks j - ky ks k ≤ 11880 by omega) (show -11880 ≤ kx ks n - kx ks k ∧ kx ks n - kx ks k ≤ 11880 by omega)
        have m2 := mul_b (M := 11880) (N := 11880) (show -11880 ≤ ky ks n - ky ks k ∧ ky ks n - ky ks k ≤ 11880 by omega) (show -11880 ≤ kx ks j - kx ks k ∧ kx ks j - kx ks k ≤ 11880 by omega)
        have Bm1 : B64 ((ky ks j - ky ks k) * (kx ks n - kx ks k)) := ⟨by omega, by omega⟩
        have Bm2 : B64 ((ky ks n - ky ks k) * (kx ks j - kx ks k)) := ⟨by omega, by omega⟩
        have ec : crz (ptK ks k) (ptK ks n) (ptK ks j) = (ky ks j - ky ks k) * (kx ks n - kx ks k) - (ky ks n - ky ks k) * (kx ks j - kx ks k) := by
          show (kx ks n - kx ks k) * (ky ks j - ky ks k) - (ky ks n - ky ks k) * (kx ks j - kx ks k) = _
          rw [Int.mul_comm (kx ks n - kx ks k)]
        rw [ez, if_pos (inp (by omega)), if_pos W.c3, if_pos (W.x hjl).2.1, if_pos (W.x hk).2.1, if_pos (W.x hnl).1, lt_def, if_pos (W.x hnl).2.1, lt_def, (W.v hjl).2.1, (W.v hk).2.1, (W.v hnl).1, (W.v hnl).2.1, i64_sub, i64_sub, i64_sub, i64_mul, i64_mul]
        by_cases c2 : 0 < crz (ptK ks k) (ptK ks n) (ptK ks j)
        · rw [if_pos ((lz_gt Bm1 Bm2).mpr (by omega)), lt_def, one32, i32_add, kp1]
          refine ih (j + 1) m (n : Int) (by omega) (by omega) (Or.inr ⟨n, rfl, by omega, hkn, fun u hu zu => ?_⟩)
          by_cases cu : u = j
          · rw [cu]; exact ⟨by omega, fun z => by omega⟩
          · exact hall u (by omega) zu
        · rw [if_neg (fun z => by have := (lz_gt Bm1 Bm2).mp z; omega), lt_def, one32, i32_add, kp1]
          refine ih (j + 1) m (j : Int) (by omega) (by omega) (Or.inr ⟨j, rfl, by omega, c1, fun u hu zu => ?_⟩)
          by_cases cu : u = j
          · rw [cu, crs_self]; exact ⟨by omega, fun _ => by omega⟩
          · refine ⟨?_, fun _ => F.1 u j (by omega) hjl⟩
            have k1 := (hall u (by omega) zu).1
            have i := crs_id2 (ptK ks k) (ptK ks n) (ptK ks j) (ptK ks u)
            have q1 := Int.mul_nonneg k1 (show 0 ≤ (ptK ks j).1 - (ptK ks k).1 by show 0 ≤ kx ks j - kx ks k; omega)
            have q2 := Int.mul_nonneg (show 0 ≤ -crz (ptK ks k) (ptK ks n) (ptK ks j) by omega) (show 0 ≤ (ptK ks u).1 - (ptK ks k).1 by show 0 ≤ kx ks u - kx ks k; omega)
            rw [Int.neg_mul] at q2
            exact nn_of_mul (show 0 < (ptK ks n).1 - (ptK ks k).1 by show 0 < kx ks n - kx ks k; omega) (by omega)
    · rw [if_neg (fun z => by have := (lz_gt Br B0).mp z; omega), lt_def, one32, i32_add, kp1]
      refine ih (j + 1) m z (by omega) (by omega) ?_
      rcases N with ⟨ez, hall⟩ | ⟨n, ez, hn, hkn, hall⟩
      · refine Or.inl ⟨ez, fun u hu => ?_⟩
        by_cases cu : u = j
        · rw [cu]; omega
        · exact hall u (by omega)
      · refine Or.inr ⟨n, ez, by omega, hkn, fun u hu zu => ?_⟩
        by_cases cu : u = j
        · rw [cu] at zu; omega
        · exact hall u (by omega) zu
theorem c_hullNext {k : Nat} (W : ShK h s cap ks) (P : StP ks) (F : StF ks) (hk : k < ks.length) : ∃ z, fX4_hullNext s (i32 (k : Int)) h = some (i32 z, h) ∧ NxP ks k ks.length z := by
  have hc := W.2.2
  obtain ⟨z, E, N⟩ := c_hn6 W P F hk (ks.length - (k + 1)) (k + 1) FU (-1) (by omega) (by rw [FU_eq]; omega) (Or.inl ⟨rfl, fun m hm => F.1 m k (by omega) hk⟩)
  refine ⟨z, ?_, N⟩
  unfold fX4_hullNext
  rw [lt_def, lt_def, one32, i32_add, kp1]
  exact E
theorem c_ah {r M : Nat} (P : StP ks) (F : StF ks) (hM : M ≤ 60000) : ∀ (wl : List Pt2) (now t m : Nat) (h : xH) (ll : List Ln), now < ks.length → ChW (PtP ks ks.length) (ptK ks now :: wl) → t + wl.length < ks.length → wl.length < m → Lo h r M → CLl h r ll → ShK h s cap ks → Apr h s r → ll.length + wl.length ≤ M → ∃ h', fX1_addHull_l30 m r s (i32 (now : Int)) (i32 (t : Int)) h = some ((), h') ∧ CLl h' r (ll ++ (edL (ptK ks now :: wl)).map lby) ∧ Fr (AY r) h h' := by
  intro wl
  induction wl with
  | nil =>
    intro now t m h ll hn cw ht hm q w W ap hl
    obtain ⟨m, rfl⟩ : ∃ k, m = k + 1 := ⟨m - 1, by omega⟩
    have hc := W.2.2
    have ht : t < ks.length := ht
    refine ⟨h, ?_, by show CLl h r (ll ++ []); rw [List.append_nil]; exact w, Fr.rf h⟩
    obtain ⟨z, E, N⟩ := c_hullNext W P F hn
    show fX1_addHull_b30 _ r s _ _ h = _
    unfold fX1_addHull_b30
    rw [if_pos W.1.1, W.2.1.1, if_neg (fun z => by have := (i32_le ⟨by omega, by omega⟩ ⟨by omega, by omega⟩).mp z; omega), E, bd_some]
    rcases N with ⟨ez, _⟩ | ⟨n, ez, hnl, hkn, _⟩
    · rw [ez, if_neg (by decide)]
    · exfalso
      have h1 : (ptK ks n).1 ≤ (ptK ks now).1 := cw (ptK ks n) ⟨n, hnl, rfl⟩
      have h2 : kx ks n ≤ kx ks now := h1
      omega
  | cons v wl ih =>
    intro now t m h ll hn cw ht hm q w W ap hl
    obtain ⟨m, rfl⟩ : ∃ k, m = k + 1 := ⟨m - 1, by omega⟩
    have hc := W.2.2
    rw [List.length_cons] at ht hm hl
    obtain ⟨z, E, N⟩ := c_hullNext W P F hn
    obtain ⟨d1, d2, d3, d4, d5⟩ := id cw
    obtain ⟨u, hu, eu⟩ := id d2
    have vx : v.1 = kx ks u := by rw [eu]; rfl
    have d1 : kx ks now < v.1 := d1
    rcases N with ⟨ez, hall⟩ | ⟨n, ez, hnl, hkn, hall⟩
    · exfalso
      have := hall u hu
      omega
    · have hall2 := hall u hu (by omega)
      have en : ptK ks n = v := next_one cw ⟨n, hnl, rfl⟩ hkn (by rw [eu]; exact hall2.1) (fun z => by rw [vx]; exact hall2.2 (by rw [← eu]; exact z))
      have bn := P.b hn
      have bm := P.b hnl
      obtain ⟨h1, E1, A1, F1⟩ := c_addBetween q w (by omega) hM (x := kx ks now) (y := ky ks now) (a := kx ks n - kx ks now) (u := ky ks n - ky ks now) ⟨by omega, by omega⟩ (by omega) ⟨by omega, by omega⟩
      rw [show kx ks now + (kx ks n - kx ks now) = kx ks n by omega, show ky ks now + (ky ks n - ky ks now) = ky ks n by omega] at A1
      have cw2 : ChW (PtP ks ks.length) (ptK ks n :: wl) := by rw [en]; exact d5
      obtain ⟨h2, E2, A2, F2⟩ := ih n (t + 1) m h1 _ hnl cw2 (by omega) (by omega) (F1.lo q) A1 (W.fr F1 ap) (F1.apr ap) (by rw [List.length_append]; show ll.length + 1 + wl.length ≤ M; omega)
      refine ⟨h2, ?_, ?_, F1.tr F2⟩
      · show fX1_addHull_b30 _ r s _ _ h = _
        unfold fX1_addHull_b30
        rw [if_pos W.1.1, W.2.1.1, if_neg (fun z => by have := (i32_le ⟨by omega, by omega⟩ ⟨by omega, by omega⟩).mp z; omega), E, bd_some, ez, if_pos (inp (by omega)), if_pos W.c1, if_pos (W.x hn).1, if_pos W.c3, if_pos (W.x hn).2.1, if_pos (W.x hnl).1, if_pos (W.x hnl).2.1, if_pos q.1, (W.v hn).1, (W.v hn).2.1, (W.v hnl).1, (W.v hnl).2.1, i64_sub, i64_sub, E1, bd_some, lt_def, one32, i32_add, kp1]
        exact E2
      · rw [en] at A2
        rw [List.append_assoc] at A2
        have e3 : edL (ptK ks now :: v :: wl) = (kx ks now, ky ks now, kx ks n, ky ks n) :: edL (v :: wl) := by
          show ((ptK ks now).1, (ptK ks now).2, v.1, v.2) :: edL (v :: wl) = _
          rw [← en]; rfl
        rw [e3]
        exact A2
theorem c_addHull {r M : Nat} (C : Can ks) (hM : M ≤ 60000) (q : Lo h r M) (w : CLl h r []) (W : ShK h s cap ks) (ap : Apr h s r) (h13 : 13 ≤ M) : ∃ h', fX1_addHull r s h = some ((), h') ∧ CLl h' r ((hulC ks).map lby) ∧ Fr (AY r) h h' := by
  obtain ⟨h12, P, F⟩ := C.1
  have hc := W.2.2
  obtain ⟨i1, i2, i3⟩ := hul_ok F ks.length (Nat.le_refl _)
  have cw := ch_w i1 i2
  have B0 : B32 0 := ⟨by decide, by decide⟩
  by_cases c0 : ks.length = 0
  · have e : hulC ks = [] := by unfold hulC; rw [c0]; rfl
    refine ⟨h, ?_, by rw [e]; exact w, Fr.rf h⟩
    unfold fX1_addHull
    rw [if_pos W.1.1, W.2.1.1, if_pos (by rw [c0]; rfl)]
  · have h0 : 0 < ks.length := by omega
    have x0 : ix (0 : Int32) (kl h (hR h s 1)) := (W.x h0).1
    have x3 : ix (0 : Int32) (kl h (hR h s 3)) := (W.x h0).2.1
    have v0 : hJ h (hR h s 1) (0 : Int32).toNatClampNeg = i64 (kx ks 0) := (W.v h0).1
    have v3 : hJ h (hR h s 3) (0 : Int32).toNatClampNeg = i64 (ky ks 0) := (W.v h0).2.1
    have len : (hulS ks ks.length).reverse.length ≤ ks.length := by rw [List.length_reverse]; exact i3
    cases e : (hulS ks ks.length).reverse with
    | nil =>
      exfalso
      have : hulS ks ks.length = [] := List.reverse_eq_nil_iff.mp e
      rw [this] at i1
      exact i1 (ptK ks 0) ⟨0, h0, rfl⟩
    | cons v wl =>
      have gl : (hulS ks ks.length).getLast? = some v := by rw [← List.head?_reverse, e]; rfl
      obtain ⟨pv, hv⟩ := ch_last _ v i1 gl
      obtain ⟨j, hj, ej⟩ := pv
      have vx : v.1 = kx ks j := by rw [ej]; rfl
      have vy : v.2 = ky ks j := by rw [ej]; rfl
      have hv0 := hv (ptK ks 0) ⟨0, h0, rfl⟩
      have hv1 : v.1 ≤ kx ks 0 := hv0.1
      have hv2 : kx ks 0 = v.1 → v.2 ≤ ky ks 0 := hv0.2
      have sj := F.1 0 j (by omega) hj
      have eb : ptK ks 0 = v := by
        have k1 : kx ks 0 = v.1 := by omega
        have k2 : ky ks 0 = v.2 := by
          have := hv2 k1
          have := can_lo C hj (by omega)
          omega
        exact Prod.ext k1 k2
      rw [e, List.length_cons] at len
      rw [e] at cw
      have bb := P.b h0
      obtain ⟨h1, E1, A1, F1⟩ := c_addBetween q w (by show 0 < M; omega) hM (x := kx ks 0) (y := ky ks 0) (a := 0) (u := 0) ⟨by omega, by omega⟩ (by omega) ⟨by omega, by omega⟩
      rw [Int.add_zero, Int.add_zero, List.nil_append] at A1
      obtain ⟨h2, E2, A2, F2⟩ := c_ah (s := s) (cap := cap) P F hM wl 0 0 FU h1 _ h0 (by rw [eb]; exact cw) (by omega) (by rw [FU_eq]; omega) (F1.lo q) A1 (W.fr F1 ap) (F1.apr ap) (by show 1 + wl.length ≤ M; omega)
      refine ⟨h2, ?_, ?_, F1.tr F2⟩
      · have E2' : fX1_addHull_l30 FU r s 0 0 h1 = some ((), h2) := E2
        unfold fX1_addHull
        rw [if_pos W.1.1, W.2.1.1, if_neg (fun z => c0 (by have := (i32_eq (b := 0) ⟨by omega, by omega⟩ B0).mp z; omega)), lt_def, if_pos W.c1, if_pos x0, if_pos W.c3, if_pos x3, if_pos q.1, v0, v3, z64, E1, bd_some, lt_def, E2']
      · have e3 : hulC ks = (kx ks 0, ky ks 0, kx ks 0, ky ks 0) :: edL (ptK ks 0 :: wl) := by
          unfold hulC
          rw [e, eb]
          show (v.1, v.2, v.1, v.2) :: edL (v :: wl) = _
          rw [← eb]; rfl
        rw [e3]
        exact A2
end HC
