/-! BOTH SIDES ASKED: area, slope, least -/
section AS
variable {h : xH} {cur : Nat → List Kn} {ks : List Kn}
theorem area_b (P : StP ks) (F : StF ks) : ∀ (d k : Nat) (a : Int), k + d = ks.length → a - 150000000 * d ≤ fo (sArea ks) d k a ∧ fo (sArea ks) d k a ≤ a + 150000000 * d := by
  intro d
  induction d with
  | zero => intro k a _; unfold fo; omega
  | succ d ih =>
    intro k a hk
    unfold fo
    have := ih (k + 1) (sArea ks k a) (by omega)
    have : a - 150000000 ≤ sArea ks k a ∧ sArea ks k a ≤ a + 150000000 := by
      unfold sArea
      split
      · rename_i g
        have b := kr_b P F (show k < ks.length by omega) g
        have f := F.2 k (by omega) g
        have b1 := P.b (show k < ks.length by omega)
        have b2 := P.b f.1
        have := mul_bd (a := ky ks k + ky ks (k + 1)) (b := krun ks k) (A := 11880) (B := 11880) ⟨by omega, by omega⟩ ⟨by omega, by omega⟩
        omega
      · omega
    omega
theorem m_ar31 {i : Nat} (q : Mo h) (hi : i < 6) (h12 : ks.length ≤ 12) (R : Rwi h i ks) (P : StP ks) (F : StF ks) {w : Int} (hw : 0 ≤ w ∧ w ≤ 1) : fX7_area_l31 FU 220 (i32 i) (i32 w) 0 0 h = some (i64 (prt ((nArea ks : Rat) / ((7200 : Int) : Rat)) w), h) := by
  have ab := area_b P F ks.length 0 0 (by omega)
  refine (fo_loop (G := fun m (a : Int) k => fX7_area_l31 m 220 (i32 i) (i32 w) (i64 a) (i32 (k : Nat)) h) (st := sArea ks) (out := fun a => bd (fX7_part (i64 a) 7200 (i32 w) h) (fun w7 g5 => some (w7, g5))) (I := fun _ _ => True) (N := ks.length) ?_ ?_ ks.length 0 FU 0 (by omega) (by rw [FU_eq]; omega) trivial).1.trans ?_
  · intro m a _
    show fX7_area_b31 _ 220 _ _ _ (i32 ks.length) h = _
    unfold fX7_area_b31
    rw [if_pos q.k220, m_many q hi R, bd_some, if_pos (Int32.le_refl _)]
  · intro m a k hk _
    refine ⟨trivial, ?_⟩
    show fX7_area_b31 _ 220 _ _ (i64 a) (i32 (k : Int)) h = fX7_area_l31 _ _ _ _ _ _ _
    unfold fX7_area_b31 fX7_area_b93 sArea
    rw [if_pos q.k220, m_many q hi R, bd_some, if_neg (nle32 hk (by omega)), m_goes q hi h12 R hk, bd_some]
    cases g : kg ks k
    · rw [if_pos bz_f, if_neg (by decide)]; simp only [lt_def, one32, z64, i32_add, i64_add, kp1, Int.add_zero]
    · have f := F.2 k hk g
      have b1 := P.b hk
      have b2 := P.b f.1
      rw [if_neg bzt0, if_pos rfl, m_yOf q hi h12 R hk, bd_some, one32, i32_add, kp1, m_yOf q hi h12 R f.1, bd_some, m_xOf q hi h12 R f.1, bd_some, m_xOf q hi h12 R hk, bd_some, i32_add, i32_sub, i64_of32 ⟨by omega, by omega⟩, i64_of32 ⟨by omega, by omega⟩]
      unfold krun
      rw [if_pos g]
      simp only [lt_def, i32_add, i64_add, i64_mul, kp1]
  · unfold nArea
    rw [show (7200 : Int64) = i64 7200 from rfl, m_part (n := fo (sArea ks) ks.length 0 0) (d := 7200) ⟨by omega, by omega⟩ ⟨by decide, by decide⟩ (by decide) ⟨by omega, by omega⟩ h, bd_some]
theorem Q_area (C : CurOk cur) (a b : Int32) : Ag cur (fX6_area 2 a b) (fX7_area 220 a b) := by
  obtain ⟨i, bi, rfl⟩ := i32_ex a
  obtain ⟨w, bw, rfl⟩ := i32_ex b
  intro h h' I J
  have Bw : B64 w := ⟨by have := bw.1; omega, by have := bw.2; omega⟩
  unfold fX6_area fX7_area
  simp only [if_pos J.1.k220, lt_def, c_isStore bi, m_isStore bi, bd_some, bzd, i64_of32 bw, c_isUL bw, z64, o64, m_in (b := 0) (c := 1) Bw ⟨by decide, by decide⟩ ⟨by decide, by decide⟩]
  by_cases h1 : 0 ≤ i ∧ i ≤ 5
  · by_cases h3 : 0 ≤ w ∧ w ≤ 1
    · simp only [if_pos h1, if_pos h3]
      obtain ⟨n, rfl⟩ : ∃ n : Nat, i = n := ⟨i.toNat, by omega⟩
      have hn : n < 6 := by omega
      obtain ⟨⟨h12, P, F⟩, -⟩ := C.1 n hn
      obtain ⟨cap, W⟩ := I.2 n (by omega)
      have co := I.1
      have sl := I.s (show n < 7 by omega)
      have f0 := thr0 h'
      have ab := area_b P F (cur n).length 0 0 (by omega)
      have ab2 : -2000000000 ≤ nArea (cur n) ∧ nArea (cur n) ≤ 2000000000 := by unfold nArea; omega
      obtain ⟨g1, E1, R1, F1⟩ := c_assign (h := h) (r := 88) (n := nArea (cur n)) (d := 7200) ⟨by omega, by omega⟩ ⟨by decide, by decide⟩ (by decide) co.k88
      have E3 := m_ar31 (f0.mo J.1) hn h12 ((J.2.1 n hn).fr f0 MSc_222) P F (w := w) h3
      have E3' : fX7_area_l31 FU 220 (i32 (n : Int)) (i32 w) (i64 0) 0 (sI h' 220 0 0) = _ := E3
      rw [E3']
      refine ⟨_, g1, _, ?_, F1.mono (fun _ _ z => AR_cs (by decide) (by decide) z), rfl, f0⟩
      rw [if_pos co.k2, co.r2_0, if_pos co.k3, if_pos sl.1, sl.2, if_pos W.1.1, c_twiceArea W F, bd_some, co.r2_11, if_pos co.k88, show (7200 : Int64) = i64 7200 from rfl, E1, bd_some, F1.ehR, co.r2_11, c_tellPlain R1 (by rw [F1.ekc]; exact co.k88) bw, bd_some, prt_tel (by omega), if_pos (by omega)]
    · simp only [if_pos h1, if_neg h3]
      exact ⟨_, h, _, rfl, Fr.rf h, rfl, thr0 h'⟩
  · simp only [if_neg h1]
    exact ⟨_, h, _, rfl, Fr.rf h, rfl, thr0 h'⟩
/-! slope -/
def knL (ks : List Kn) (t : Int) : List Nat → Nat → Option Nat
  | [], _ => none
  | k :: l, a => if kg ks k = true then (if (a : Int) = t then some k else knL ks t l (a + 1)) else knL ks t l a
def fnL (t : Int) : List Spn → Nat → Option Spn
  | [], _ => none
  | s :: l, a => if s.1 < s.2.2.1 then (if (a : Int) = t then some s else fnL t l (a + 1)) else fnL t l a
theorem knl_L (t : Int) : ∀ (d k a : Nat), ru (sKnl ks t) (fun _ => none) d k a = knL ks t (List.range' k d) a := by
  intro d
  induction d with
  | zero => intro k a; rfl
  | succ d ih =>
    intro k a
    rw [List.range'_succ]
    unfold ru knL sKnl
    by_cases g : kg ks k = true
    · rw [if_pos g, if_pos g]
      by_cases c : (a : Int) = t
      · rw [if_pos c, if_pos c]
      · rw [if_neg c, if_neg c]; exact ih _ _
    · rw [if_neg g, if_neg g]; exact ih _ _
theorem fn_kn (F : StF ks) (t : Int) : ∀ (l : List Nat) (a : Nat), (∀ k ∈ l, k < ks.length) → fnL t (l.filterMap (spO ks)) a = (knL ks t l a).map (fun k => (kx ks k, ky ks k, kx ks (k + 1), ky ks (k + 1))) := by
  intro l
  induction l with
  | nil => intro a _; rfl
  | cons k l ih =>
    intro a hl
    have hk := hl k List.mem_cons_self
    have hl2 : ∀ k ∈ l, k < ks.length := fun j hj => hl j (List.mem_cons_of_mem _ hj)
    rw [List.filterMap_cons]
    unfold knL
    by_cases g : kg ks k = true
    · have e : spO ks k = some (kx ks k, ky ks k, kx ks (k + 1), ky ks (k + 1)) := by unfold spO; rw [if_pos g]
      have f := F.2 k hk g
      rw [e, if_pos g]
      show (if kx ks k < kx ks (k + 1) then _ else _) = _
      rw [if_pos f.2]
      by_cases c : (a : Int) = t
      · rw [if_pos c, if_pos c]; rfl
      · rw [if_neg c, if_neg c]; exact ih _ hl2
    · rw [if_neg g]
      by_cases c : k = 0 ∨ kg ks (k - 1) = false
      · have e : spO ks k = some (kx ks k, ky ks k, kx ks k, ky ks k) := by unfold spO; rw [if_neg g, if_pos c]
        rw [e]
        show (if kx ks k < kx ks k then _ else _) = _
        rw [if_neg (by omega)]; exact ih _ hl2
      · have e : spO ks k = none := by unfold spO; rw [if_neg g, if_neg c]
        rw [e]; exact ih _ hl2
theorem kn_some (F : StF ks) {t : Int} : ∀ (l : List Nat) (a : Nat) {k : Nat}, knL ks t l a = some k → k ∈ l ∧ kg ks k = true := by
  intro l
  induction l with
  | nil => intro a k e; cases e
  | cons j l ih =>
    intro a k e
    unfold knL at e
    split at e
    · rename_i g
      split at e
      · rw [← Option.some.inj e]; exact ⟨List.mem_cons_self, g⟩
      · have := ih _ e; exact ⟨List.mem_cons_of_mem _ this.1, this.2⟩
    · have := ih _ e; exact ⟨List.mem_cons_of_mem _ this.1, this.2⟩
theorem kn_none {t : Int} : ∀ (d k a : Nat), (a : Int) ≤ t → (ru (sKnl ks t) (fun _ => none) d k a = none ↔ fo (sLinesIn ks) d k (a : Int) ≤ t) := by
  intro d
  induction d with
  | zero => intro k a ha; unfold ru fo; simp [ha]
  | succ d ih =>
    intro k a ha
    unfold ru fo sKnl sLinesIn
    by_cases g : kg ks k = true
    · rw [if_pos g, if_pos g]
      by_cases c : (a : Int) = t
      · rw [if_pos c]
        have : (a : Int) + 1 ≤ fo (sLinesIn ks) d (k + 1) ((a : Int) + 1) := by
          have e := ln_parts ks d (k + 1) ((a : Int) + 1) 0
          have := pt_b ks d (k + 1) 0
          omega
        constructor
        · intro z; cases z
        · intro z
          have z : fo (sLinesIn ks) d (k + 1) ((a : Int) + 1) ≤ t := z
          omega
      · rw [if_neg c]
        exact ih (k + 1) (a + 1) (by omega)
    · rw [if_neg g, if_neg g]
      exact ih (k + 1) a ha
theorem m_sl55 {sp : List Spn} (hsp : ∀ p ∈ sp, (-5940 ≤ p.1 ∧ p.1 ≤ 5940) ∧ (-5940 ≤ p.2.1 ∧ p.2.1 ≤ 5940) ∧ (-5940 ≤ p.2.2.1 ∧ p.2.2.1 ≤ 5940) ∧ (-5940 ≤ p.2.2.2 ∧ p.2.2.2 ≤ 5940) ∧ p.1 ≤ p.2.2.1) (hs : sp.length ≤ 12) {t w : Int} (bt : B32 t) (hw : 0 ≤ w ∧ w ≤ 1) (q : Mo h) (E : Ens h 0 sp) (c : hI h 220 26 = i32 sp.length) : ∀ (d k m a : Nat), k + d = sp.length → d < m → a ≤ k → fX7_slope_l55 m 220 (i32 t) (i32 w) (i32 (a : Int)) (i32 (k : Int)) h = some (i64 (match fnL t (sp.drop k) a with
    | none => -9223372036854775808
    | some s => prt (((s.2.2.2 - s.2.1 : Int) : Rat) / ((s.2.2.1 - s.1 : Int) : Rat)) w), h) := by
  intro d
  induction d with
  | zero =>
    intro k m a hk hm ha
    obtain ⟨m, rfl⟩ : ∃ k, m = k + 1 := ⟨m - 1, by omega⟩
    rw [List.drop_eq_nil_of_le (by omega)]
    show fX7_slope_b55 _ 220 _ _ _ _ h = _
    unfold fX7_slope_b55
    rw [if_pos q.k220, c, if_pos (by rw [show k = sp.length by omega]; exact Int32.le_refl _)]
    rfl
  | succ d ih =>
    intro k m a hk hm ha
    obtain ⟨m, rfl⟩ : ∃ k, m = k + 1 := ⟨m - 1, by omega⟩
    have hkl : k < sp.length := by omega
    have hg : sp[k]? = some sp[k] := List.getElem?_eq_getElem hkl
    have b := hsp sp[k] (List.getElem_mem _)
    have v := E k _ hg
    rw [List.drop_eq_getElem_cons hkl]
    generalize sp[k] = s at *
    have e0 : (i32 (4 * (k : Int))).toNatClampNeg = 0 + 4 * k := by rw [i32_nat (by omega) (by omega)]; omega
    have e1 : (i32 (4 * (k : Int) + 1)).toNatClampNeg = 0 + 4 * k + 1 := by rw [i32_nat (by omega) (by omega)]; omega
    have e2 : (i32 (4 * (k : Int) + 2)).toNatClampNeg = 0 + 4 * k + 2 := by rw [i32_nat (by omega) (by omega)]; omega
    have e3 : (i32 (4 * (k : Int) + 3)).toNatClampNeg = 0 + 4 * k + 3 := by rw [i32_nat (by omega) (by omega)]; omega
    have x0 : ix (i32 (4 * (k : Int))) 96 := ix_i (by omega) (by omega) (by decide)
    have x1 : ix (i32 (4 * (k : Int) + 1)) 96 := ix_i (by omega) (by omega) (by decide)
    have x2 : ix (i32 (4 * (k : Int) + 2)) 96 := ix_i (by omega) (by omega) (by decide)
    have x3 : ix (i32 (4 * (k : Int) + 3)) 96 := ix_i (by omega) (by omega) (by decide)
    show fX7_slope_b55 _ 220 _ _ _ _ h = _
    unfold fX7_slope_b55 fX7_slope_b141
    rw [if_pos q.k220, c, if_neg (nle32 hkl (by omega))]
    simp only [lt_def, q.r25, q.k240, q.l240, fou32, one32, two32, thr32, i32_mul, i32_add, i32_sub, if_pos x0, if_pos x1, if_pos x2, if_pos x3, e0, e1, e2, e3, v.1, v.2.1, v.2.2.1, v.2.2.2, i32_le (a := s.2.2.1) (b := s.1) ⟨by omega, by omega⟩ ⟨by omega, by omega⟩, i32_eq (a := (a : Int)) (b := t) ⟨by omega, by omega⟩ bt, i64_of32 (z := s.2.2.2 - s.2.1) ⟨by omega, by omega⟩, i64_of32 (z := s.2.2.1 - s.1) ⟨by omega, by omega⟩, kp1, reduceIte]
    unfold fnL
    by_cases c1 : s.1 < s.2.2.1
    · rw [if_neg (by omega), if_pos c1]
      by_cases c2 : (a : Int) = t
      · rw [if_pos c2, if_pos c2, m_part (n := s.2.2.2 - s.2.1) (d := s.2.2.1 - s.1) ⟨by omega, by omega⟩ ⟨by omega, by omega⟩ (by omega) ⟨by omega, by omega⟩ h, bd_some]
      · rw [if_neg c2, if_neg c2]
        exact ih (k + 1) m (a + 1) (by omega) (by omega) (by omega)
    · rw [if_pos (by omega), if_neg c1]
      exact ih (k + 1) m a (by omega) (by omega) (by omega)
theorem Q_slope (C : CurOk cur) (a b c : Int32) : Ag cur (fX6_slope 2 a b c) (fX7_slope 220 a b c) := by
  obtain ⟨i, bi, rfl⟩ := i32_ex a
  obtain ⟨t, bt, rfl⟩ := i32_ex b
  obtain ⟨w, bw, rfl⟩ := i32_ex c
  intro h h' I J
  have Bt : B64 t := ⟨by have := bt.1; omega, by have := bt.2; omega⟩
  have Bw : B64 w := ⟨by have := bw.1; omega, by have := bw.2; omega⟩
  unfold fX6_slope fX7_slope
  simp only [if_pos J.1.k220, lt_def, c_isStore bi, m_isStore bi, bd_some, bzd, i64_of32 bt, i64_of32 bw, c_isUL bw]
  have l1 : (i32 t < (0 : Int32)) ↔ t < 0 := i32_lt bt (b := 0) ⟨by decide, by decide⟩
  by_cases h1 : 0 ≤ i ∧ i ≤ 5
  · simp only [if_pos h1, l1]
    obtain ⟨n, rfl⟩ : ∃ n : Nat, i = n := ⟨i.toNat, by omega⟩
    have hn : n < 6 := by omega
    obtain ⟨O, -⟩ := C.1 n hn
    obtain ⟨h12, P, F⟩ := id O
    obtain ⟨cap, W⟩ := I.2 n (by omega)
    have co := I.1
    have sl := I.s (show n < 7 by omega)
    have f0 := thr0 h'
    have q := f0.mo J.1
    have R := (J.2.1 n hn).fr f0 MSc_222
    have pb := nParts_b (cur n)
    have ln := ln_parts (cur n) (cur n).length 0 0 0
    have enp : fo (sParts (cur n)) (cur n).length 0 0 = nParts (cur n) := rfl
    have s1 := fm_len (spO (cur n)) (cur n).length
    simp only [m_linesIn q hn h12 R, bd_some, i64_of32 (z := ((cur n).length : Int) - nParts (cur n)) ⟨by omega, by omega⟩, z64, o64, i64_sub, m_in (b := 0) (c := ((cur n).length : Int) - nParts (cur n) - 1) Bt ⟨by decide, by decide⟩ ⟨by omega, by omega⟩, m_in (b := 0) (c := 1) Bw ⟨by decide, by decide⟩ ⟨by decide, by decide⟩, bzd]
    by_cases c1 : t < 0
    · rw [if_pos c1, if_neg (by omega)]
      exact ⟨_, h, _, rfl, Fr.rf h, rfl, f0⟩
    · rw [if_neg c1]
      by_cases h3 : 0 ≤ w ∧ w ≤ 1
      · rw [if_pos h3, if_pos h3, if_pos co.k2, co.r2_0, if_pos co.k3, if_pos sl.1, sl.2, if_pos W.1.1, c_knotOfLine W F bt, bd_some]
        have kn := kn_none (ks := cur n) (t := t) (cur n).length 0 0 (by omega)
        have kn' : knl (cur n) t = none ↔ fo (sLinesIn (cur n)) (cur n).length 0 0 ≤ t := kn
        have eL : knl (cur n) t = knL (cur n) t (List.range' 0 (cur n).length) 0 := knl_L t (cur n).length 0 0
        cases hk : knl (cur n) t with
        | none =>
          have := kn'.mp hk
          rw [if_neg (show ¬ (0 ≤ t ∧ t ≤ ((cur n).length : Int) - nParts (cur n) - 1) by omega), if_neg (show ¬ (0 : Int32) ≤ i32 (iO none) by decide)]
          exact ⟨_, h, _, rfl, Fr.rf h, rfl, f0⟩
        | some k =>
          rw [eL] at hk
          have km := kn_some F _ _ hk
          have hkl : k < (cur n).length := by have := List.mem_range'_1.mp km.1; omega
          have nn : ¬ fo (sLinesIn (cur n)) (cur n).length 0 0 ≤ t := fun z => by
            have z2 := kn'.mpr z
            rw [eL, hk] at z2; cases z2
          rw [if_pos (show (0 ≤ t ∧ t ≤ ((cur n).length : Int) - nParts (cur n) - 1) by omega), if_pos (show (0 : Int32) ≤ i32 (iO (some k)) from (i32_le (a := 0) (b := (k : Int)) ⟨by decide, by decide⟩ ⟨by omega, by omega⟩).mpr (by omega))]
          obtain ⟨g3, E3, S3, C3, F3⟩ := m_laySpans (a := 0) (Or.inl rfl) hn h12 F q R
          have E3' : fX7_laySpans 220 (i32 (n : Int)) 0 (sI h' 220 0 0) = some ((), g3) := E3
          have sb := sp_b32 P F
          have E4 := m_sl55 (t := t) (w := w) sb (by unfold spL; omega) bt h3 (F3.mo q) S3 C3 (spL (cur n)).length 0 FU 0 (by omega) (by rw [FU_eq]; unfold spL; omega) (by omega)
          have E4' : fX7_slope_l55 FU 220 (i32 t) (i32 w) 0 0 g3 = _ := E4
          have ef : fnL t ((spL (cur n)).drop 0) 0 = some (kx (cur n) k, ky (cur n) k, kx (cur n) (k + 1), ky (cur n) (k + 1)) := by
            rw [List.drop_zero]
            unfold spL
            rw [List.range_eq_range', fn_kn F t _ 0 (fun j hj => by have := List.mem_range'_1.mp hj; omega), hk]
            rfl
          rw [ef] at E4'
          have b := kr_b P F hkl km.2
          obtain ⟨g1, E1, R1, F1⟩ := c_assign (h := h) (r := 88) (n := krise (cur n) k) (d := krun (cur n) k) ⟨by omega, by omega⟩ ⟨by omega, by omega⟩ (by omega) co.k88
          have er : krise (cur n) k = ky (cur n) (k + 1) - ky (cur n) k := by unfold krise; rw [if_pos km.2]
          have eu : krun (cur n) k = kx (cur n) (k + 1) - kx (cur n) k := by unfold krun; rw [if_pos km.2]
          rw [E3', bd_some, E4']
          have ik : i32 (iO (some k)) = i32 (k : Int) := rfl
          refine ⟨_, g1, g3, ?_, F1.mono (fun _ _ z => AR_cs (by decide) (by decide) z), rfl, f0.tr (F3.mono (fun r' k' z => AQ_ms (Or.inl z)))⟩
          rw [ik, c_riseOf W F hkl, bd_some, c_runOf W F hkl, bd_some, co.r2_11, if_pos co.k88, E1, bd_some, F1.ehR, co.r2_11, c_tellPlain R1 (by rw [F1.ekc]; exact co.k88) bw, bd_some]
          show _ = some (i64 (prt (((ky (cur n) (k + 1) - ky (cur n) k : Int) : Rat) / ((kx (cur n) (k + 1) - kx (cur n) k : Int) : Rat)) w), g1)
          rw [prt_tel (by omega), if_pos (by omega), er, eu]
      · rw [if_neg h3, if_neg h3]
        by_cases c2 : 0 ≤ t ∧ t ≤ ((cur n).length : Int) - nParts (cur n) - 1
        · rw [if_pos c2]; exact ⟨_, h, _, rfl, Fr.rf h, rfl, f0⟩
        · rw [if_neg c2]; exact ⟨_, h, _, rfl, Fr.rf h, rfl, f0⟩
  · simp only [if_neg h1]
    exact ⟨_, h, _, rfl, Fr.rf h, rfl, thr0 h'⟩
end AS
