/-! CALLS: turn -/
def tuS (p : Spn) : Spn := if p.2.2.2 < p.2.1 then (p.2.2.2, p.2.2.1, p.2.1, p.1) else (p.2.1, p.1, p.2.2.2, p.2.2.1)
section TU
variable {h : xH} {s cap : Nat} {ks : List Kn}
theorem c_tu53 {r M : Nat} {ll : List Ln} (W : ShK h s cap ks) (P : StP ks) (q : Lo h r M) (w : CLl h r ll) (hl : ll.length < M) (hM : M ≤ 60000) {i j k : Nat} (hi : i < ks.length) (hj : j < ks.length) (hij : ky ks i ≤ ky ks j) (r2 : Nat → Nat → Int32 → xH → Option (Unit × xH)) : ∃ h', fX1_addTurned_b53 r2 r s (i32 (k : Int)) (i32 (i : Int)) (i32 (j : Int)) h = r2 r s (i32 ((k + 1 : Nat) : Int)) h' ∧ CLl h' r (ll ++ [lby (ky ks i, kx ks i, ky ks j, kx ks j)]) ∧ Fr (AY r) h h' := by
  have bi := P.b hi
  have bj := P.b hj
  obtain ⟨h', E, A, F⟩ := c_addBetween q w hl hM (x := ky ks i) (y := kx ks i) (a := ky ks j - ky ks i) (u := kx ks j - kx ks i) ⟨by omega, by omega⟩ (by omega) ⟨by omega, by omega⟩
  rw [show ky ks i + (ky ks j - ky ks i) = ky ks j by omega, show kx ks i + (kx ks j - kx ks i) = kx ks j by omega] at A
  refine ⟨h', ?_, A, F⟩
  unfold fX1_addTurned_b53 fX1_addTurned_b97
  rw [if_pos W.1.1, if_pos W.c3, if_pos (W.x hi).2.1, if_pos W.c1, if_pos (W.x hi).1, if_pos (W.x hj).2.1, if_pos (W.x hj).1, if_pos q.1, (W.v hi).1, (W.v hi).2.1, (W.v hj).1, (W.v hj).2.1, i64_sub, i64_sub, E, bd_some, lt_def, one32, i32_add, kp1]
theorem sp_end (F : StF ks) {k : Nat} {sp : Spn} (hk : k < ks.length) (e : spO ks k = some sp) : ∃ j, j < ks.length ∧ (if kg ks k = true then k + 1 else k : Nat) = j ∧ sp = (kx ks k, ky ks k, kx ks j, ky ks j) := by
  unfold spO at e
  by_cases c : kg ks k = true
  · rw [if_pos c] at e
    exact ⟨k + 1, (F.2 k hk c).1, if_pos c, (Option.some.inj e).symm⟩
  · rw [if_neg c] at e
    split at e
    · exact ⟨k, hk, if_neg c, (Option.some.inj e).symm⟩
    · cases e
theorem c_tu2 {r M : Nat} (hO : StO ks) (hM : M ≤ 60000) : ∀ (d k m : Nat) (h : xH) (ll : List Ln), k + d = ks.length → d < m → Lo h r M → CLl h r ll → ShK h s cap ks → Apr h s r → ll.length + d ≤ M → ∃ h', fX1_addTurned_l2 m r s (i32 (k : Int)) h = some ((), h') ∧ (∀ l0, ll = l0 ++ (((List.range k).filterMap (spO ks)).map tuS).map lby → CLl h' r (l0 ++ ((spL ks).map tuS).map lby)) ∧ Fr (AY r) h h' := by
  obtain ⟨h12, hP, F⟩ := hO
  intro d
  induction d with
  | zero =>
    intro k m h ll hk hm q w W ap hl
    obtain ⟨m, rfl⟩ : ∃ k, m = k + 1 := ⟨m - 1, by omega⟩
    refine ⟨h, ?_, fun l0 e => ?_, Fr.rf h⟩
    · show fX1_addTurned_b2 _ _ _ _ _ = _
      unfold fX1_addTurned_b2
      rw [if_pos W.1.1, W.2.1.1, if_pos ((i32_le ⟨by omega, by omega⟩ ⟨by omega, by omega⟩).mpr (by omega))]
    · unfold spL
      rw [show ks.length = k by omega, ← e]; exact w
  | succ d ih =>
    intro k m h ll hk hm q w W ap hl
    obtain ⟨m, rfl⟩ : ∃ k, m = k + 1 := ⟨m - 1, by omega⟩
    have hkl : k < ks.length := by omega
    have hc := W.2.2
    show ∃ h', fX1_addTurned_b2 _ _ _ _ _ = _ ∧ _
    unfold fX1_addTurned_b2
    rw [if_pos W.1.1, W.2.1.1, if_neg (fun z => by have := (i32_le ⟨by omega, by omega⟩ ⟨by omega, by omega⟩).mp z; omega), c_beginsPiece W F hkl, bd_some]
    cases hs : spO ks k with
    | none =>
      unfold fX1_addTurned_b97
      rw [if_pos (show bz (none : Option Spn).isSome = 0 from rfl), lt_def, one32, i32_add]
      obtain ⟨h', E, A, B⟩ := ih (k + 1) m h ll (by omega) (by omega) q w W ap (by omega)
      refine ⟨h', E, fun l0 e => A l0 ?_, B⟩
      rw [fm_succ, hs, e]; simp
    | some sp =>
      obtain ⟨j, hj, ej, esp⟩ := sp_end F hkl hs
      have Bk := hP.y64 hkl
      have Bj := hP.y64 hj
      rw [if_neg (show ¬ bz (some sp).isSome = 0 from bzt0), c_endOfPiece W F hkl, ej, bd_some, if_pos W.c3, if_pos (W.x hj).2.1, if_pos (W.x hkl).2.1]
      by_cases c : ky ks k ≤ ky ks j
      · have et : tuS sp = (ky ks k, kx ks k, ky ks j, kx ks j) := by rw [esp]; exact if_neg (show ¬ ky ks j < ky ks k by omega)
        obtain ⟨h1, E1, A1, B1⟩ := c_tu53 (k := k) W hP q w (by omega) hM hkl hj c (fX1_addTurned_l2 m)
        rw [← et] at A1
        obtain ⟨h2, E2, A2, B2⟩ := ih (k + 1) m h1 _ (by omega) (by omega) (B1.lo q) A1 (W.fr B1 ap) (B1.apr ap) (by rw [List.length_append]; show ll.length + 1 + d ≤ M; omega)
        refine ⟨h2, ?_, fun l0 e => A2 l0 ?_, B1.tr B2⟩
        · rw [if_pos (by rw [(W.v hj).2.1, (W.v hkl).2.1]; exact (lz_ge Bj Bk).mpr c), E1]
          exact E2
        · rw [fm_succ, hs, e]; simp
      · have et : tuS sp = (ky ks j, kx ks j, ky ks k, kx ks k) := by rw [esp]; exact if_pos (show ky ks j < ky ks k by omega)
        obtain ⟨h1, E1, A1, B1⟩ := c_tu53 (k := k) W hP q w (by omega) hM hj hkl (by omega) (fX1_addTurned_l2 m)
        rw [← et] at A1
        obtain ⟨h2, E2, A2, B2⟩ := ih (k + 1) m h1 _ (by omega) (by omega) (B1.lo q) A1 (W.fr B1 ap) (B1.apr ap) (by rw [List.length_append]; show ll.length + 1 + d ≤ M; omega)
        refine ⟨h2, ?_, fun l0 e => A2 l0 ?_, B1.tr B2⟩
        · rw [if_neg (by rw [(W.v hj).2.1, (W.v hkl).2.1]; exact fun z => c ((lz_ge Bj Bk).mp z)), E1]
          exact E2
        · rw [fm_succ, hs, e]; simp
theorem c_addTurned {r M : Nat} (hO : StO ks) (hM : M ≤ 60000) {ll : List Ln} (q : Lo h r M) (w : CLl h r ll) (W : ShK h s cap ks) (ap : Apr h s r) (hl : ll.length + ks.length ≤ M) : ∃ h', fX1_addTurned r s h = some ((), h') ∧ CLl h' r (ll ++ ((spL ks).map tuS).map lby) ∧ Fr (AY r) h h' := by
  obtain ⟨h', E, A, B⟩ := c_tu2 (s := s) (cap := cap) hO hM ks.length 0 FU h ll (by omega) (by rw [FU_eq]; have := hO.1; omega) q w W ap (by omega)
  refine ⟨h', ?_, A ll (by simp), B⟩
  unfold fX1_addTurned
  rw [lt_def]
  exact E
end TU
section TV
variable {h : xH} {S : Ast} {sps : List Spn} {cap : Nat → Nat} {lst : Nat → List Kn}
theorem c_addT {i : Nat} {ll : List Ln} (I : ShI h cap lst) (hi : i < 6) (C : Can (lst i)) (w : CLl h 67 ll) (hl : ll.length + 12 ≤ 288) : ∃ h', fX1_addTurned 67 (hR h 3 i) h = some ((), h') ∧ CLl h' 67 (ll ++ ((spL (lst i)).map tuS).map lby) ∧ Fr (AY 67) h h' := by
  have W := I.2.1 i (by omega)
  rw [sh_lo (by omega)] at W
  exact c_addTurned C.1 (by decide) I.1.lo67 w W (fun r k z y => frc_no (ay_ok y).1 (ay_ok y).2.1 (I.2.2.2.1 i (by omega) r k (by rw [sh_lo (by omega)]; exact z))) (by have := C.1.1; omega)
theorem tu_sb {ks : List Kn} (C : Can ks) : ∀ p ∈ (spL ks).map tuS, SpB p := fun p hp => by
  obtain ⟨s, hs, e⟩ := List.mem_map.mp hp
  obtain ⟨a, b, c, d, e5⟩ := sp_b32 C.1.2.1 C.1.2.2 s hs
  rw [← e]
  unfold tuS
  split
  · refine ⟨?_, ?_, ?_, ?_, ?_⟩
    · show -11880 ≤ s.2.2.2 ∧ s.2.2.2 ≤ 11880; omega
    · show -11880 ≤ s.2.2.1 ∧ s.2.2.1 ≤ 11880; omega
    · show -11880 ≤ s.2.1 ∧ s.2.1 ≤ 11880; omega
    · show -11880 ≤ s.1 ∧ s.1 ≤ 11880; omega
    · show s.2.2.2 ≤ s.2.1; omega
  · refine ⟨?_, ?_, ?_, ?_, ?_⟩
    · show -11880 ≤ s.2.1 ∧ s.2.1 ≤ 11880; omega
    · show -11880 ≤ s.1 ∧ s.1 ≤ 11880; omega
    · show -11880 ≤ s.2.2.2 ∧ s.2.2.2 ≤ 11880; omega
    · show -11880 ≤ s.2.2.1 ∧ s.2.2.1 ≤ 11880; omega
    · show s.2.1 ≤ s.2.2.2; omega
theorem c_turn_ok {n : Nat} (hn : n < 6) (ct : canT (aC S n) = true) (K : AOk S) (C : CSt h S) : ∃ g ks, fX6_turn 2 (i32 (n : Int)) h = some (i32 (ks.length : Int), g) ∧ PaperIs (lnn (((spL (aC S n)).map tuS).map lby)) (((spL (aC S n)).map tuS).map lby).length ks ∧ CSt g (actA S 6 6 ks) ∧ Out h g := by
  obtain ⟨cap, lst, c1, c2, c3, c4, c5⟩ := C
  have co := c1.1.1
  have Cn := K.1.1 n hn
  have s1 := can_sb Cn
  have wn := c1.1.2.1 n (by omega)
  rw [sh_lo (by omega), c2 n (by omega)] at wn
  obtain ⟨E0, w0, F0⟩ := c_sta co
  have I0 := c1.1.ay F0
  obtain ⟨h1, E1, w1, F1⟩ := c_addT (i := n) I0 hn (by rw [c2 n (by omega)]; exact Cn) w0 (by decide)
  rw [c2 n (by omega), List.nil_append] at w1
  obtain ⟨g, ks, E3, P3, C3, O3⟩ := c_ontoP (act := 6) (sps := (spL (aC S n)).map tuS) (by rw [List.length_map]; omega) (tu_sb Cn) c1 c2 c3 c5 (F0.tr F1) (fun r k z => ay_ok z) w1
  refine ⟨g, ks, ?_, P3, C3, O3⟩
  have E3' : fX6_ontoPaper 2 6 h1 = some (i32 (ks.length : Int), g) := E3
  have xn : ix (i32 (n : Int)) 7 := ix_i (by omega) (by omega) (by decide)
  have nn := nat_i n (by omega)
  have d1 : decide (0 ≤ (n : Int) ∧ (n : Int) ≤ 5) = true := decide_eq_true (by omega)
  have k0 := I0.1
  have ec := c_canBeTurned wn Cn.1.2.1
  unfold fX6_turn
  rw [c_isStore ⟨by omega, by omega⟩, bd_some, d1, if_neg bzt0, if_pos co.k2, co.r2_0, if_pos co.k3, co.l3, if_pos xn]
  simp only [nn]
  rw [if_pos wn.1.1, ec, bd_some, ct, if_neg bzt0, co.r2_8, if_pos co.lo67.1, E0, bd_some, k0.r2_0, if_pos k0.k3, k0.l3, if_pos xn, k0.r2_8, if_pos k0.lo67.1, E1, bd_some, E3', bd_some]
theorem al_all {p : Nat → Bool} : ∀ (d k : Nat), al p d k = true → ∀ j, k ≤ j → j < k + d → p j = true := by
  intro d
  induction d with
  | zero => intro k _ j h1 h2; omega
  | succ d ih =>
    intro k ha j h1 h2
    unfold al at ha
    rw [Bool.and_eq_true] at ha
    by_cases c : j = k
    · rw [c]; exact ha.1
    · exact ih (k + 1) ha.2 j (by omega) (by omega)
theorem tu_way {ks : List Kn} (C : Can ks) {b : Bool} (ha : al (pWay ks b) (ks.length - 1) 1 = true) : ∀ p ∈ spL ks, tuS p = if b = true then (p.2.1, p.1, p.2.2.2, p.2.2.1) else (p.2.2.2, p.2.2.1, p.2.1, p.1) := by
  intro p hp
  unfold spL at hp
  obtain ⟨k, hk, e⟩ := List.mem_filterMap.mp hp
  have hkl := List.mem_range.mp hk
  unfold spO at e
  split at e
  · rename_i c
    have f := C.1.2.2.2 k hkl c
    have w := al_all _ _ ha (k + 1) (by omega) (by omega)
    rw [← Option.some.inj e]
    cases b with
    | true =>
      have w2 : pUp ks (k + 1) = true := w
      unfold pUp at w2
      rw [Bool.and_eq_true, decide_eq_true_eq, decide_eq_true_eq, show k + 1 - 1 = k by omega] at w2
      exact (if_neg (show ¬ ky ks (k + 1) < ky ks k by omega)).trans (if_pos rfl).symm
    | false =>
      have w2 : pDn ks (k + 1) = true := w
      unfold pDn at w2
      rw [Bool.and_eq_true, decide_eq_true_eq, decide_eq_true_eq, show k + 1 - 1 = k by omega] at w2
      exact (if_pos (show ky ks (k + 1) < ky ks k by omega)).trans (if_neg (by decide)).symm
  · split at e
    · rw [← Option.some.inj e]
      have e1 : tuS (kx ks k, ky ks k, kx ks k, ky ks k) = (ky ks k, kx ks k, ky ks k, kx ks k) := if_neg (show ¬ ky ks k < ky ks k by omega)
      rw [e1]
      cases b <;> rfl
    · cases e
theorem m_tul {b : Bool} (hs : sps.length ≤ 12) (hb : ∀ p ∈ sps, SpB p) (hw : ∀ p ∈ sps, tuS p = if b = true then (p.2.1, p.1, p.2.2.2, p.2.2.1) else (p.2.2.2, p.2.2.1, p.2.1, p.1)) : ∀ (d k m : Nat) (h : xH) (ll : List Ln), k + d = sps.length → d < m → Mo h → Ens h 0 sps → hI h 220 26 = i32 sps.length → Lnl h ll → ll.length + d ≤ 700 → ∃ h', fX7_turn_l59 m 220 (bz b) (i32 (k : Int)) h = bd (fX7_onto 220 6 h') (fun w4 g2 => some (w4, g2)) ∧ Lnl h' (ll ++ (((sps.drop k).map tuS).map lby)) ∧ Fr AI h h' := by
  intro d
  induction d with
  | zero =>
    intro k m h ll hk hm q E c w hl
    obtain ⟨m, rfl⟩ : ∃ k, m = k + 1 := ⟨m - 1, by omega⟩
    refine ⟨h, ?_, by rw [List.drop_eq_nil_of_le (by omega)]; simpa using w, Fr.rf h⟩
    show fX7_turn_b59 _ 220 _ _ h = _
    unfold fX7_turn_b59
    rw [if_pos q.k220, c, if_pos ((i32_le ⟨by omega, by omega⟩ ⟨by omega, by omega⟩).mpr (by omega))]
  | succ d ih =>
    intro k m h ll hk hm q E c w hl
    obtain ⟨m, rfl⟩ : ∃ k, m = k + 1 := ⟨m - 1, by omega⟩
    have hkl : k < sps.length := by omega
    have hg : sps[k]? = some sps[k] := List.getElem?_eq_getElem hkl
    obtain ⟨b1, b2, b3, b4, b5⟩ := hb sps[k] (List.getElem_mem _)
    have v := E k _ hg
    have hwk := hw sps[k] (List.getElem_mem _)
    have y1 : B32 sps[k].1 := ⟨by omega, by omega⟩
    have y2 : B32 sps[k].2.1 := ⟨by omega, by omega⟩
    have y3 : B32 sps[k].2.2.1 := ⟨by omega, by omega⟩
    have y4 : B32 sps[k].2.2.2 := ⟨by omega, by omega⟩
    have e0 : (i32 (4 * (k : Int))).toNatClampNeg = 0 + 4 * k := by rw [i32_nat (by omega) (by omega)]; omega
    have e1 : (i32 (4 * (k : Int) + 1)).toNatClampNeg = 0 + 4 * k + 1 := by rw [i32_nat (by omega) (by omega)]; omega
    have e2 : (i32 (4 * (k : Int) + 2)).toNatClampNeg = 0 + 4 * k + 2 := by rw [i32_nat (by omega) (by omega)]; omega
    have e3 : (i32 (4 * (k : Int) + 3)).toNatClampNeg = 0 + 4 * k + 3 := by rw [i32_nat (by omega) (by omega)]; omega
    have x0 : ix (i32 (4 * (k : Int))) 96 := ix_i (by omega) (by omega) (by decide)
    have x1 : ix (i32 (4 * (k : Int) + 1)) 96 := ix_i (by omega) (by omega) (by decide)
    have x2 : ix (i32 (4 * (k : Int) + 2)) 96 := ix_i (by omega) (by omega) (by decide)
    have x3 : ix (i32 (4 * (k : Int) + 3)) 96 := ix_i (by omega) (by omega) (by decide)
    have key : ∃ h1, fX7_turn_b59 (fX7_turn_l59 m) 220 (bz b) (i32 (k : Int)) h = fX7_turn_l59 m 220 (bz b) (i32 ((k + 1 : Nat) : Int)) h1 ∧ Lnl h1 (ll ++ [lby (tuS sps[k])]) ∧ Fr AI h h1 := by
      unfold fX7_turn_b59 fX7_turn_b163
      rw [if_pos q.k220, c, if_neg (fun z => by have := (i32_le ⟨by omega, by omega⟩ ⟨by omega, by omega⟩).mp z; omega)]
      cases b with
      | true =>
        rw [if_pos rfl] at hwk
        obtain ⟨h1, E1, A1, F1⟩ := m_lineBy q w (by omega) (x1 := sps[k].2.1) (y1 := sps[k].1) (x2 := sps[k].2.2.2) (y2 := sps[k].2.2.1) y2 y4
        refine ⟨h1, ?_, by rw [hwk]; exact A1, F1⟩
        rw [lt_def, if_neg bzt0]
        simp only [lt_def, q.r25, q.k240, q.l240, fou32, one32, two32, thr32, i32_mul, i32_add, if_pos x0, if_pos x1, if_pos x2, if_pos x3, e0, e1, e2, e3, v.1, v.2.1, v.2.2.1, v.2.2.2, i64_of32 y1, i64_of32 y2, i64_of32 y3, i64_of32 y4, E1, bd_some, kp1, reduceIte]
      | false =>
        rw [if_neg (by decide)] at hwk
        obtain ⟨h1, E1, A1, F1⟩ := m_lineBy q w (by omega) (x1 := sps[k].2.2.2) (y1 := sps[k].2.2.1) (x2 := sps[k].2.1) (y2 := sps[k].1) y4 y2
        refine ⟨h1, ?_, by rw [hwk]; exact A1, F1⟩
        rw [lt_def, if_pos bz_f]
        simp only [lt_def, q.r25, q.k240, q.l240, fou32, one32, two32, thr32, i32_mul, i32_add, if_pos x0, if_pos x1, if_pos x2, if_pos x3, e0, e1, e2, e3, v.1, v.2.1, v.2.2.1, v.2.2.2, i64_of32 y1, i64_of32 y2, i64_of32 y3, i64_of32 y4, E1, bd_some, kp1, reduceIte]
    obtain ⟨h1, E1, A1, F1⟩ := key
    obtain ⟨h2, E2, A2, F2⟩ := ih (k + 1) m h1 _ (by omega) (by omega) (F1.mo q) (E.fr F1 AI_en) (by rw [(F1.2.2 220 26 (by unfold AI; omega)).1]; exact c) A1 (by rw [List.length_append]; show ll.length + 1 + d ≤ 700; omega)
    refine ⟨h2, ?_, ?_, F1.tr F2⟩
    · show fX7_turn_b59 _ 220 _ _ h = _
      rw [E1]; exact E2
    · rw [List.drop_eq_getElem_cons hkl, List.map_cons, List.map_cons]
      rw [List.append_assoc] at A2
      exact A2
end TV
