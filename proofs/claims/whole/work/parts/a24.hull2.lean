/-! CALLS: hull -/
section ML
variable {h : xH} {S : Ast}
theorem m_hst {i : Nat} {ks : List Kn} (hi : i < 6) (O : StO ks) : ∀ (d k m : Nat) (h : xH), k + d = ks.length → d < m → Mo h → Rwi h i ks → Hst h (hulS ks k) → ∃ h', fX7_hull_l23 m 220 (i32 (i : Int)) (i32 ((hulS ks k).length : Int)) (i32 (k : Int)) h = fX7_hull_l170 FU 220 (i32 ((hulS ks ks.length).length : Int)) 0 (sI h' 220 19 0) ∧ Hst h' (hulS ks ks.length) ∧ Fr AH h h' := by
  have h12 := O.1
  have F := O.2.2
  intro d
  induction d with
  | zero =>
    intro k m h hk hm M R H
    obtain ⟨m, rfl⟩ : ∃ k, m = k + 1 := ⟨m - 1, by omega⟩
    have ek : k = ks.length := by omega
    subst ek
    refine ⟨h, ?_, H, Fr.rf h⟩
    show fX7_hull_b23 _ 220 _ _ _ h = _
    unfold fX7_hull_b23
    rw [if_pos M.k220, m_many M hi R, bd_some, if_pos ((i32_le ⟨by omega, by omega⟩ ⟨by omega, by omega⟩).mpr (Int.le_refl _)), lt_def, lt_def]
  | succ d ih =>
    intro k m h hk hm M R H
    obtain ⟨m, rfl⟩ : ∃ k, m = k + 1 := ⟨m - 1, by omega⟩
    have hkl : k < ks.length := by omega
    obtain ⟨i1, i2, i3⟩ := hul_ok F k (by omega)
    obtain ⟨h1, E1, H1, F1⟩ := m_h23 M hi O R hkl H (by omega) (fun v hv => ptp_b O.2.1 (by omega) (i1.all v hv)) (fX7_hull_l23 m)
    obtain ⟨h2, E2, H2, F2⟩ := ih (k + 1) m h1 (by omega) (by omega) (F1.mo M) (R.fr F1 (fun k z => by unfold AH at z; omega)) H1
    refine ⟨h2, ?_, H2, F1.tr F2⟩
    show fX7_hull_b23 _ 220 _ _ _ h = _
    rw [E1]; exact E2
theorem m_h198 {n k o : Nat} {v w : Pt2} {ll : List Ln} (M : Mo h) (kl1 : k < 13) (ol : o < 13) (hk : hI h 244 k = i32 v.1 ∧ hI h 245 k = i32 v.2) (ho : hI h 244 o = i32 w.1 ∧ hI h 245 o = i32 w.2) (sb : SpB (v.1, v.2, w.1, w.2)) (L : Lnl h ll) (hl : ll.length < 700) (r170 : Nat → Int32 → Int32 → xH → Option (Int32 × xH)) : ∃ h', fX7_hull_b198 r170 (i32 (o : Int)) 220 (i32 (n : Int)) (i32 (k : Int)) h = r170 220 (i32 (n : Int)) (i32 ((k + 1 : Nat) : Int)) h' ∧ Lnl h' (ll ++ [lby (v.1, v.2, w.1, w.2)]) ∧ Fr AI h h' := by
  obtain ⟨h', E, A, F⟩ := m_lb M L hl sb
  refine ⟨h', ?_, A, F⟩
  have xk : ix (i32 (k : Int)) 13 := ix_i (by omega) (by omega) (by decide)
  have xo : ix (i32 (o : Int)) 13 := ix_i (by omega) (by omega) (by decide)
  have nk := nat_i k (by omega)
  have no := nat_i o (by omega)
  obtain ⟨s1, s2, s3, s4, s5⟩ := sb
  dsimp only at s1 s2 s3 s4 s5
  have E' : fX7_lineBy 220 (i64 v.1) (i64 v.2) (i64 w.1) (i64 w.2) h = some ((), h') := E
  unfold fX7_hull_b198
  rw [if_pos M.k220, M.r33, if_pos M.k244, M.l244, if_pos xk, M.r34, if_pos M.k245, M.l245, if_pos xk, if_pos xo, if_pos xo]
  simp only [nk, no]
  rw [hk.1, hk.2, ho.1, ho.2, i64_of32 ⟨by omega, by omega⟩, i64_of32 ⟨by omega, by omega⟩, i64_of32 ⟨by omega, by omega⟩, i64_of32 ⟨by omega, by omega⟩, E', bd_some, lt_def, one32, i32_add, kp1]
theorem m_h170 {st : List Pt2} {P : Pt2 → Prop} (hP : ∀ p, P p → PtB p) (h12 : st.length ≤ 12) (h2 : 2 ≤ st.length) : ∀ (wl : List Pt2) (v : Pt2) (k m : Nat) (h : xH) (ll : List Ln), st.reverse.drop k = v :: wl → P v → ChW P (v :: wl) → wl.length < m → Mo h → Hst h st → Lnl h ll → ll.length + wl.length ≤ 700 → ∃ h', fX7_hull_l170 m 220 (i32 (st.length : Int)) (i32 (k : Int)) h = bd (fX7_onto 220 7 h') (fun w4 g2 => some (w4, g2)) ∧ Lnl h' (ll ++ (edL (v :: wl)).map lby) ∧ Fr AI h h' := by
  intro wl
  induction wl with
  | nil =>
    intro v k m h ll e _ _ hm M H L hl
    obtain ⟨m, rfl⟩ : ∃ k, m = k + 1 := ⟨m - 1, by omega⟩
    have el := congrArg List.length e
    rw [List.length_drop, List.length_reverse] at el
    have el : st.length - k = 1 := el
    refine ⟨h, ?_, by show Lnl h (ll ++ []); rw [List.append_nil]; exact L, Fr.rf h⟩
    show fX7_hull_b170 _ 220 _ _ h = _
    unfold fX7_hull_b170 fX7_hull_b240
    rw [one32, i32_add, if_neg (fun z => by have := (i32_lt ⟨by omega, by omega⟩ ⟨by omega, by omega⟩).mp z; omega), if_neg (fun z => by have := (i32_eq (b := 0) ⟨by omega, by omega⟩ ⟨by decide, by decide⟩).mp z; omega), if_pos M.k220]
  | cons w wl ih =>
    intro v k m h ll e pv cw hm M H L hl
    obtain ⟨m, rfl⟩ : ∃ k, m = k + 1 := ⟨m - 1, by omega⟩
    rw [List.length_cons] at hm hl
    have el := congrArg List.length e
    rw [List.length_drop, List.length_reverse, List.length_cons, List.length_cons] at el
    obtain ⟨a1, a2, a3, a4, a5⟩ := cw
    have at0 : st.reverse[k]? = some v := by
      have := congrArg (fun l => l[0]?) e
      simpa using this
    have at1 : st.reverse[k + 1]? = some w := by
      have := congrArg (fun l => l[1]?) e
      simpa using this
    have dr : st.reverse.drop (k + 1) = w :: wl := by
      rw [← List.drop_drop, e]; rfl
    have bv := hP v pv
    have bw := hP w a2
    obtain ⟨h1, E1, L1, F1⟩ := m_h198 (n := st.length) (k := k) (o := k + 1) M (by omega) (by omega) (Hst_at H at0) (Hst_at H at1) (by
      obtain ⟨v1, v2⟩ := bv
      obtain ⟨w1, w2⟩ := bw
      unfold SpB; dsimp only
      exact ⟨by omega, by omega, by omega, by omega, by omega⟩) L (by omega) (fX7_hull_l170 m)
    obtain ⟨h2', E2, L2, F2⟩ := ih w (k + 1) m h1 _ dr a2 a5 (by omega) (F1.mo M) (H.fr F1 (fun k => by unfold AI; omega)) L1 (by rw [List.length_append]; show ll.length + 1 + wl.length ≤ 700; omega)
    refine ⟨h2', ?_, ?_, F1.tr F2⟩
    · show fX7_hull_b170 _ 220 _ _ h = _
      unfold fX7_hull_b170 fX7_hull_b186
      rw [one32, i32_add, if_pos ((i32_lt ⟨by omega, by omega⟩ ⟨by omega, by omega⟩).mpr (by omega)), if_neg (fun z => by have := (i32_eq (b := 1) ⟨by omega, by omega⟩ ⟨by decide, by decide⟩).mp z; omega), kp1, E1]
      exact E2
    · rw [List.append_assoc] at L2
      exact L2
theorem m_hlines {ks : List Kn} (C : Can ks) (M : Mo h) (H : Hst h (hulS ks ks.length)) (L : Lnl h []) : ∃ h', fX7_hull_l170 FU 220 (i32 ((hulS ks ks.length).length : Int)) 0 h = bd (fX7_onto 220 7 h') (fun w4 g2 => some (w4, g2)) ∧ Lnl h' ((hulM ks).map lby) ∧ Fr AI h h' := by
  obtain ⟨c1, c2, c3⟩ := hul_ch C
  have hP : ∀ p, PtP ks ks.length p → PtB p := fun p hp => ptp_b C.1.2.1 (Nat.le_refl _) hp
  unfold hulM
  cases e : (hulS ks ks.length).reverse with
  | nil =>
    have e0 : hulS ks ks.length = [] := List.reverse_eq_nil_iff.mp e
    refine ⟨h, ?_, L, Fr.rf h⟩
    rw [e0, FU_eq]
    show fX7_hull_b170 _ 220 _ _ h = _
    unfold fX7_hull_b170 fX7_hull_b240
    rw [if_neg (by decide), if_pos rfl, if_neg (by decide), if_pos M.k220]
  | cons v wl =>
    have el := congrArg List.length e
    rw [List.length_reverse, List.length_cons] at el
    rw [e] at c1 c3
    have pv := c3 v List.mem_cons_self
    cases wl with
    | nil =>
      have el : (hulS ks ks.length).length = 1 := el
      have at0 : (hulS ks ks.length).reverse[0]? = some v := by rw [e]; rfl
      have hc := Hst_at H at0
      rw [el, FU_eq]
      obtain ⟨h1, E1, L1, F1⟩ := m_h198 (n := 1) (k := 0) (o := 0) M (by decide) (by decide) hc hc (lone_b (hP v pv)) L (by decide) (fX7_hull_l170 99999)
      rw [List.nil_append] at L1
      have k1 := (F1.mo M).k220
      refine ⟨h1, ?_, L1, F1⟩
      have E1' : fX7_hull_b198 (fX7_hull_l170 99999) 0 220 1 0 h = fX7_hull_l170 99999 220 1 1 h1 := E1
      show fX7_hull_b170 (fX7_hull_l170 99999) 220 1 0 h = _
      unfold fX7_hull_b170 fX7_hull_b186
      rw [if_neg (by decide), if_pos rfl, if_pos rfl, if_pos rfl, E1']
      show fX7_hull_b170 (fX7_hull_l170 99998) 220 1 1 h1 = _
      unfold fX7_hull_b170 fX7_hull_b240
      rw [if_neg (by decide), if_neg (by decide), if_pos k1]
    | cons w wl =>
      rw [List.length_cons] at el
      obtain ⟨h1, E1, L1, F1⟩ := m_h170 hP c2 (by omega) (w :: wl) v 0 FU h [] (by rw [List.drop_zero]; exact e) pv c1 (by rw [FU_eq, List.length_cons]; omega) M H L (by rw [List.length_cons]; show 0 + (wl.length + 1) ≤ 700; omega)
      rw [List.nil_append] at L1
      exact ⟨h1, E1, L1, F1⟩
theorem c_hull_ok {n : Nat} (hn : n < 6) (K : AOk S) (C : CSt h S) : ∃ g ks, fX6_hull 2 (i32 (n : Int)) h = some (i32 (ks.length : Int), g) ∧ PaperIs (lnn ((hulC (aC S n)).map lby)) ((hulC (aC S n)).map lby).length ks ∧ CSt g (actA S 7 6 ks) ∧ Out h g := by
  obtain ⟨cap, lst, c1, c2, c3, c4, c5⟩ := C
  have co := c1.1.1
  have Cn := K.1.1 n hn
  obtain ⟨E0, w0, F0⟩ := c_sta co
  have I0 := c1.1.ay F0
  have wn := I0.2.1 n (by omega)
  rw [sh_lo (by omega), c2 n (by omega)] at wn
  obtain ⟨h1, E1, w1, F1⟩ := c_addHull Cn (by decide) I0.1.lo67 w0 wn (fun r k z y => frc_no (ay_ok y).1 (ay_ok y).2.1 (I0.2.2.2.1 n (by omega) r k (by rw [sh_lo (by omega)]; exact z))) (by decide)
  obtain ⟨g, ks, E3, P3, C3, O3⟩ := c_ontoP (act := 7) (sps := hulC (aC S n)) (hulC_b Cn).1 (hulC_b Cn).2 c1 c2 c3 c5 (F0.tr F1) (fun r k z => ay_ok z) w1
  refine ⟨g, ks, ?_, P3, C3, O3⟩
  have E3' : fX6_ontoPaper 2 7 h1 = some (i32 (ks.length : Int), g) := E3
  have xn : ix (i32 (n : Int)) 7 := ix_i (by omega) (by omega) (by decide)
  have nn := nat_i n (by omega)
  have d1 : decide (0 ≤ (n : Int) ∧ (n : Int) ≤ 5) = true := decide_eq_true (by omega)
  have k0 := I0.1
  unfold fX6_hull
  rw [c_isStore ⟨by omega, by omega⟩, bd_some, d1, if_neg bzt0, if_pos co.k2, co.r2_8, if_pos co.lo67.1, E0, bd_some, k0.r2_0, if_pos k0.k3, k0.l3, if_pos xn, k0.r2_8, if_pos k0.lo67.1]
  simp only [nn]
  rw [E1, bd_some, E3', bd_some]
theorem Cal_hull (a : Int32) : Cal (fX6_hull 2 a) (fX7_hull 220 a) := by
  obtain ⟨j, bj, rfl⟩ := i32_ex a
  intro h S K C M
  have co := C.co
  by_cases h3 : 0 ≤ j ∧ j ≤ 5
  · obtain ⟨n, rfl⟩ : ∃ n : Nat, j = n := ⟨j.toNat, by omega⟩
    have hn : n < 6 := by omega
    have Cn := K.1.1 n hn
    have h12 := Cn.1.1
    obtain ⟨g3, ks, E3, P3, C3, O3⟩ := c_hull_ok hn K C
    have M3 := M.out O3
    have f1 : Fr (fun r c => r = 220 ∧ c = 0) g3 (sI g3 220 0 0) := Fr.I _ ⟨rfl, rfl⟩
    have M4 := M3.sm K f1 (fun r c z => by omega)
    obtain ⟨g5, E5, H5, F5⟩ := m_hst hn Cn.1 (aC S n).length 0 FU (sI g3 220 0 0) (by omega) (by rw [FU_eq]; omega) M4.1.1 (M4.1.2.1 n hn) trivial
    have M5 := M4.sm K F5 (fun r c z => by unfold AH at z; omega)
    have f6 : Fr (fun r c => r = 220 ∧ c = 19) g5 (sI g5 220 19 0) := Fr.I _ ⟨rfl, rfl⟩
    have M6 := M5.sm K f6 (fun r c z => by omega)
    have w0 : Lnl (sI g5 220 19 0) [] := ⟨by rw [hI_sI, if_pos ⟨rfl, rfl⟩]; rfl, fun k l e => by rw [List.getElem?_nil] at e; cases e⟩
    obtain ⟨g7, E7, L7, F7⟩ := m_hlines Cn M6.1.1 (H5.fr f6 (fun k => by omega)) w0
    have M7 := M6.sm K F7 (fun r c z => by unfold AI at z; omega)
    have FF : Fr In220 g3 g7 := ((f1.mono (fun r c z => by unfold In220; omega)).tr (F5.mono (fun r c z => by unfold AH at z; unfold In220; omega))).tr ((f6.mono (fun r c z => by unfold In220; omega)).tr (F7.mono (fun r c z => by unfold AI at z; unfold In220; omega)))
    obtain ⟨g8, E8, K8, C8, M8⟩ := fin_onto (act := 7) (hulM_b Cn).1 (hulM_b Cn).2 K (hul_eq Cn P3) C3 FF M7 L7
    refine ⟨i32 (ks.length : Int), g3, g8, actA S 7 6 ks, E3, ?_, K8, C8, M8⟩
    have E8' : fX7_onto 220 7 g7 = some (i32 (ks.length : Int), g8) := E8
    have E5' : fX7_hull_l23 FU 220 (i32 (n : Int)) 0 0 (sI g3 220 0 0) = fX7_hull_l170 FU 220 (i32 ((hulS (aC S n) (aC S n).length).length : Int)) 0 (sI g5 220 19 0) := E5
    unfold fX7_hull
    rw [if_pos M3.1.1.k220, lt_def, m_isStore bj, bd_some, decide_eq_true h3, if_neg bzt0, lt_def, lt_def, E5', E7, E8', bd_some]
  · refine ref_cal K C M (a := -2) (by decide) ?_ (fun g q => ?_)
    · unfold fX6_hull
      rw [c_isStore bj, bd_some, decide_eq_false h3, if_pos bz_f, if_pos co.k2, m2_32]
    · unfold fX7_hull
      rw [if_pos q.k220, lt_def, m_isStore bj, bd_some, decide_eq_false h3, if_pos bz_f, m2_32]
end ML
