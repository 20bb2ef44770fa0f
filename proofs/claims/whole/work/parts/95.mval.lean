/-! THE REFERENCE'S hasValue, limit -/
def MSc (r k : Nat) : Prop := (235 ≤ r ∧ r ≤ 240) ∨ (r = 220 ∧ (k = 0 ∨ k = 19 ∨ k = 26 ∨ 45 ≤ k))
theorem AQ_ms {r k : Nat} (z : AQ r k) : MSc r k := by unfold AQ AE AI at z; unfold MSc; omega
/-- what hasValue writes -/
def MSv (r k : Nat) : Prop := (235 ≤ r ∧ r ≤ 240) ∨ (r = 220 ∧ (k = 19 ∨ k = 26 ∨ k = 45 ∨ k = 46))
theorem AQ_mv {r k : Nat} (z : AQ r k) : MSv r k := by unfold AQ AE AI at z; unfold MSv; omega
theorem MSv_ms {r k : Nat} (z : MSv r k) : MSc r k := by unfold MSv at z; unfold MSc; omega
theorem MSv_222 (k : Nat) : ¬ MSv 222 k := by unfold MSv; omega
theorem MSc_222 (k : Nat) : ¬ MSc 222 k := by unfold MSc; omega
theorem own_bd {ks : List Kn} (P : StP ks) (F : StF ks) {m : Nat} (hm : m < (spL ks).length) : LBd 200000000 12000 12000 (ownL ks m) ∧ (-5940 ≤ lnF (ownL ks m) ∧ lnF (ownL ks m) ≤ 5940) ∧ (-5940 ≤ lnT (ownL ks m) ∧ lnT (ownL ks m) ≤ 5940) ∧ lnF (ownL ks m) ≤ lnT (ownL ks m) := by
  have h1 : (spL ks)[m]? = some (spL ks)[m] := List.getElem?_eq_getElem hm
  have b := sp_b32 P F (spL ks)[m] (List.getElem_mem _)
  have e : ownL ks m = lby (spL ks)[m] := by
    unfold ownL lnn; rw [List.getElem?_map, h1]; rfl
  rw [e]
  generalize (spL ks)[m] = sp at b
  obtain ⟨x1, y1, x2, y2⟩ := sp
  simp only at b
  unfold lby
  by_cases c : x1 = x2
  · rw [if_pos c]
    exact ⟨⟨⟨by show -200000000 ≤ y1; omega, by show y1 ≤ 200000000; omega⟩, ⟨by show (-12000 : Int) ≤ 0; decide, by show (0 : Int) ≤ 12000; decide⟩, by show (0 : Int) < 1; decide, by show (1 : Int) ≤ 12000; decide⟩, b.1, b.2.2.1, b.2.2.2.2⟩
  · rw [if_neg c]
    have m1 := mul_bd (a := y1) (b := x2 - x1) (A := 5940) (B := 11880) ⟨by omega, by omega⟩ ⟨by omega, by omega⟩
    have m2 := mul_bd (a := y2 - y1) (b := x1) (A := 11880) (B := 5940) ⟨by omega, by omega⟩ ⟨by omega, by omega⟩
    exact ⟨⟨⟨by show -200000000 ≤ y1 * (x2 - x1) - (y2 - y1) * x1; omega, by show y1 * (x2 - x1) - (y2 - y1) * x1 ≤ 200000000; omega⟩, ⟨by show -12000 ≤ y2 - y1; omega, by show y2 - y1 ≤ 12000; omega⟩, by show 0 < x2 - x1; omega, by show x2 - x1 ≤ 12000; omega⟩, b.1, b.2.2.1, b.2.2.2.2⟩
theorem vl_q (l : Ln) (x : Int) : vl l (x : Rat) = ((lnA l + lnB l * x : Int) : Rat) / (lnC l : Rat) := by
  unfold vl ic sl
  rw [Rat.intCast_add, Rat.intCast_mul, Rat.div_def, Rat.div_def, Rat.div_def]
  grind
theorem sp_len (ks : List Kn) : (spL ks).length ≤ ks.length := fm_len (spO ks) ks.length
section MV
variable {h : xH} {i : Nat} {ks : List Kn} {x : Int}
/-- the lines of one store are laid -/
def OwI (h : xH) (ks : List Kn) : Prop := Lns h (ownL ks) (spL ks).length ∧ hI h 220 19 = i32 (spL ks).length
theorem m_own (q : Mo h) (hi : i < 6) (O : StO ks) (R : Rwi h i ks) : ∃ h', fX7_linesOf 220 (i32 i) (sI h 220 19 0) = some ((), h') ∧ OwI h' ks ∧ Fr MSv h h' := by
  have f0 : Fr MSv h (sI h 220 19 0) := Fr.I _ (Or.inr ⟨rfl, by omega⟩)
  obtain ⟨h2, E2, w2, F2⟩ := m_linesOf (ll := []) hi O (f0.mo q) (R.fr f0 MSv_222) ⟨by rw [hI_sI, if_pos ⟨rfl, rfl⟩]; rfl, fun k l e => by simp at e⟩ (by show 0 + 12 ≤ 700; decide)
  rw [List.nil_append] at w2
  refine ⟨h2, E2, ⟨?_, ?_⟩, f0.tr (F2.mono (fun _ _ z => AQ_mv z))⟩
  · have := w2.l; rw [List.length_map] at this; exact this
  · have := w2.1; rw [List.length_map] at this; exact this
theorem OwI.fr {h' : xH} {A : Nat → Nat → Prop} (w : OwI h ks) (f : Fr A h h') (hA : ∀ k, ¬ A 235 k ∧ ¬ A 236 k ∧ ¬ A 237 k ∧ ¬ A 238 k ∧ ¬ A 239 k) (hA2 : ¬ A 220 19) : OwI h' ks := by
  refine ⟨fun k hk => ?_, by rw [(f.2.2 220 19 hA2).1]; exact w.2⟩
  have := w.1 k hk
  rw [(f.2.2 235 k (hA k).1).1, (f.2.2 236 k (hA k).2.1).1, (f.2.2 237 k (hA k).2.2.1).2, (f.2.2 238 k (hA k).2.2.2.1).2, (f.2.2 239 k (hA k).2.2.2.2).2]
  exact this
theorem m_least (q : Mo h) (O : StO ks) (w : OwI h ks) {y : Rat} (hy : Pt 1000000000 12000 y) : ∃ b', fX7_leastAt 220 (i64 y.num) (i64 y.den) h = some (i32 b', h) ∧ LstB (ownL ks) (spL ks).length y b' := by
  have hl := sp_len ks
  have h12 := O.1
  refine m_leastAt (MA := 200000000) (MB := 12000) (MC := 12000) (NP := 1000000000) (NQ := 12000) ⟨by decide, by decide, by decide, by decide⟩ q w.1 (by omega) (fun k hk => (own_bd O.2.1 O.2.2 hk).1) (fun k hk => ?_) w.2 hy
  have b := (own_bd O.2.1 O.2.2 hk).2
  have pt : ∀ z : Int, -5940 ≤ z → z ≤ 5940 → Pt 1000000000 12000 (z : Rat) := fun z z1 z2 => ⟨by show -1000000000 ≤ z; omega, by show z ≤ 1000000000; omega, by show ((1 : Nat) : Int) ≤ 12000; decide⟩
  exact ⟨⟨by omega, by omega⟩, ⟨by omega, by omega⟩, pt _ (by omega) (by omega), pt _ (by omega) (by omega)⟩
theorem m_leastI (q : Mo h) (O : StO ks) (w : OwI h ks) (hx : -20000 ≤ x ∧ x ≤ 20000) : ∃ b', fX7_leastAt 220 (i64 x) 1 h = some (i32 b', h) ∧ LstB (ownL ks) (spL ks).length (x : Rat) b' := by
  obtain ⟨b', E, B⟩ := m_least q O w (y := (x : Rat)) ⟨by show -1000000000 ≤ x; omega, by show x ≤ 1000000000; omega, by show ((1 : Nat) : Int) ≤ 12000; decide⟩
  rw [Rat.num_intCast, int_den] at E
  exact ⟨b', E, B⟩
theorem ln_n (P : StP ks) (F : StF ks) {m : Nat} (hm : m < (spL ks).length) (hx : -20000 ≤ x ∧ x ≤ 20000) : (-1000000000 ≤ lnA (ownL ks m) + lnB (ownL ks m) * x ∧ lnA (ownL ks m) + lnB (ownL ks m) * x ≤ 1000000000) ∧ 0 < lnC (ownL ks m) ∧ lnC (ownL ks m) ≤ 12000 := by
  have b := (own_bd P F hm).1
  have m1 := mul_bd (a := lnB (ownL ks m)) (b := x) (A := 12000) (B := 20000) b.2.1 hx
  have := b.1
  exact ⟨⟨by omega, by omega⟩, b.2.2.1, b.2.2.2⟩
theorem m_hasValue (q : Mo h) (hi : i < 6) (O : StO ks) (R : Rwi h i ks) (hx : -20000 ≤ x ∧ x ≤ 20000) : ∃ h' v, fX7_hasValue 220 (i32 i) (i32 x) h = some (bz v.isSome, h') ∧ IsV ks (x : Rat) v ∧ (∀ y, v = some y → ∃ n d : Int, hJ h' 220 45 = i64 n ∧ hJ h' 220 46 = i64 d ∧ (-1000000000 ≤ n ∧ n ≤ 1000000000) ∧ 0 < d ∧ d ≤ 12000 ∧ y = (n : Rat) / (d : Rat)) ∧ Fr MSv h h' := by
  obtain ⟨h1, E1, w1, F1⟩ := m_own q hi O R
  have q1 := F1.mo q
  obtain ⟨b', E2, B2⟩ := m_leastI q1 O w1 hx
  have tx : (i32 x).toInt64 = i64 x := i64_of32 ⟨by omega, by omega⟩
  have h12 := O.1
  have hl := sp_len ks
  unfold fX7_hasValue fX7_hasValue_b53
  rw [if_pos q.k220, lt_def, E1, bd_some, tx, E2, bd_some]
  rcases B2 with ⟨e, hno⟩ | ⟨o, e, ho, hc, hm⟩
  · refine ⟨h1, none, ?_, hno, (fun y e => by cases e), F1⟩
    rw [e, if_pos (by rfl)]; rfl
  · have e1 : ¬ i32 b' = -1 := by
      rw [e, m1_32]
      intro z
      have := (i32_eq (a := (o : Int)) (b := -1) ⟨by omega, by omega⟩ ⟨by decide, by decide⟩).mp z
      omega
    have x0 : ix (i32 b') 700 := by rw [e]; exact ix_i (by omega) (by omega) (by decide)
    have n0 : (i32 b').toNatClampNeg = o := by rw [e]; exact nat_i o (by omega)
    have v := w1.1 o ho
    have nb := ln_n O.2.1 O.2.2 ho hx
    refine ⟨sJ (sJ h1 220 45 (i64 (lnA (ownL ks o) + lnB (ownL ks o) * x))) 220 46 (i64 (lnC (ownL ks o))), some (vl (ownL ks o) (x : Rat)), ?_, ⟨⟨o, ho, hc, rfl⟩, fun m h1 h2 => hm m h1 h2⟩, fun y ey => ⟨_, _, ?_, ?_, nb.1, nb.2.1, nb.2.2, ?_⟩, F1.tr ((Fr.J _ (Or.inr ⟨rfl, by omega⟩)).tr (Fr.J _ (Or.inr ⟨rfl, by omega⟩)))⟩
    · simp only [if_neg e1, lt_def, kc_sJ, kl_sJ, hR_sJ, hJ_sJ, q1.k237, q1.l237, q1.k238, q1.l238, q1.k239, q1.l239, q1.r22, q1.r23, q1.r24, if_pos x0, n0, v.2.2.1, v.2.2.2.1, v.2.2.2.2, i64_mul, i64_add, reduceIte]
      rfl
    · simp [hJ_sJ]
    · simp [hJ_sJ]
    · rw [← Option.some.inj ey, vl_q]
theorem prt_tel {y : Rat} {w : Int} (hw : 0 ≤ w ∧ w ≤ 3) : prt y w = tel (some y) (if w < 2 then w else w - 2) := by
  unfold prt tel
  rcases (show w = 0 ∨ w = 1 ∨ w = 2 ∨ w = 3 by omega) with e | e | e | e <;> rw [e] <;> rfl
theorem q60 {n d : Int} (d0 : 0 < d) : (n : Rat) / ((60 * d : Int) : Rat) = (n : Rat) / (d : Rat) / 60 := by
  rw [Rat.intCast_mul]
  have : ((60 : Int) : Rat) = 60 := rfl
  rw [this]
  have hd : (d : Rat) ≠ 0 := by
    intro z
    have : d = 0 := by exact_mod_cast z
    omega
  grind
theorem m_lm49 (O : StO ks) (hx : -20000 ≤ x ∧ x ≤ 20000) {w : Int} (hw : 0 ≤ w ∧ w ≤ 3) (q : Mo h) (W : OwI h ks) : ∀ (d k m : Nat), k + d = (spL ks).length → d < m → (∀ j, j < k → ¬ lv (ownL ks) (decide (w < 2)) (x : Rat) j) → ∃ v, fX7_limit_l49 m 220 (i32 x) (i32 w) (i32 (k : Int)) h = some (i64 (tel (s60 v) (if w < 2 then w else w - 2)), h) ∧ IsC ks (decide (w < 2)) (x : Rat) v := by
  have h12 := O.1
  have hl := sp_len ks
  have tx : (i32 x).toInt64 = i64 x := i64_of32 ⟨by omega, by omega⟩
  have bx : B32 x := ⟨by omega, by omega⟩
  intro d
  induction d with
  | zero =>
    intro k m hk hm I
    obtain ⟨m, rfl⟩ : ∃ k, m = k + 1 := ⟨m - 1, by omega⟩
    refine ⟨none, ?_, fun j hj => I j (by omega)⟩
    show fX7_limit_b49 _ 220 _ _ _ h = _
    unfold fX7_limit_b49
    rw [if_pos q.k220, W.2, if_pos (by rw [show k = (spL ks).length by omega]; exact Int32.le_refl _)]
    rfl
  | succ d ih =>
    intro k m hk hm I
    obtain ⟨m, rfl⟩ : ∃ k, m = k + 1 := ⟨m - 1, by omega⟩
    have hkl : k < (spL ks).length := by omega
    have v := W.1 k hkl
    have nb := ln_n O.2.1 O.2.2 hkl hx
    have ob := own_bd O.2.1 O.2.2 hkl
    have x0 : ix (i32 (k : Int)) 700 := ix_i (by omega) (by omega) (by decide)
    have n0 : (i32 (k : Int)).toNatClampNeg = k := nat_i k (by omega)
    have bF : B32 (lnF (ownL ks k)) := ⟨by omega, by omega⟩
    have bT : B32 (lnT (ownL ks k)) := ⟨by omega, by omega⟩
    have lvw : lv (ownL ks) (decide (w < 2)) (x : Rat) k ↔ (if w < 2 then lnF (ownL ks k) < x ∧ x ≤ lnT (ownL ks k) else lnF (ownL ks k) ≤ x ∧ x < lnT (ownL ks k)) := by
      unfold lv bey
      by_cases c : w < 2
      · simp [c, Rat.intCast_lt_intCast]
      · simp [c, Rat.intCast_le_intCast]
    show ∃ v, fX7_limit_b49 _ 220 _ _ _ h = _ ∧ _
    unfold fX7_limit_b49
    rw [if_pos q.k220, W.2, if_neg (nle32 hkl (by omega))]
    have key : ∀ (cF cT : Bool), (lv (ownL ks) (decide (w < 2)) (x : Rat) k ↔ (cF = true ∧ cT = true)) → ∃ v, fX7_limit_b140 (fX7_limit_l49 m) (bz cT) 220 (i32 x) (i32 w) (i32 (k : Int)) (bz cF) h = some (i64 (tel (s60 v) (if w < 2 then w else w - 2)), h) ∧ IsC ks (decide (w < 2)) (x : Rat) v := by
      intro cF cT hiff
      unfold fX7_limit_b140 fX7_limit_b186
      have go : ¬ lv (ownL ks) (decide (w < 2)) (x : Rat) k → ∃ v, (lt (i32 (k : Int) + 1) fun v1 => fX7_limit_l49 m 220 (i32 x) (i32 w) v1 h) = some (i64 (tel (s60 v) (if w < 2 then w else w - 2)), h) ∧ IsC ks (decide (w < 2)) (x : Rat) v := by
        intro hno
        rw [lt_def, one32, i32_add, kp1]
        refine ih (k + 1) m (by omega) (by omega) (fun j hj => ?_)
        by_cases e : j = k
        · rw [e]; exact hno
        · exact I j (by omega)
      cases cF
      · rw [if_pos bz_f]; exact go (fun z => by have := hiff.mp z; simp at this)
      · cases cT
        · rw [if_neg bzt0, if_pos bz_f]; exact go (fun z => by have := hiff.mp z; simp at this)
        · refine ⟨some (vl (ownL ks k) (x : Rat)), ?_, k, hkl, hiff.mpr ⟨rfl, rfl⟩, rfl⟩
          simp only [if_neg bzt0, q.k220, q.k237, q.l237, q.k238, q.l238, q.k239, q.l239, q.r22, q.r23, q.r24, if_pos x0, n0, v.2.2.1, v.2.2.2.1, v.2.2.2.2, tx, show (60 : Int64) = i64 60 from rfl, i64_mul, i64_add, reduceIte]
          rw [m_part (n := lnA (ownL ks k) + lnB (ownL ks k) * x) (d := 60 * lnC (ownL ks k)) ⟨by omega, by omega⟩ ⟨by omega, by omega⟩ (by omega) hw h, bd_some, q60 nb.2.1, prt_tel hw, vl_q]
          rfl
    have b98 : ∀ cF : Bool, (lv (ownL ks) (decide (w < 2)) (x : Rat) k ↔ (cF = true ∧ (if w < 2 then x ≤ lnT (ownL ks k) else x < lnT (ownL ks k)))) → ∃ v, fX7_limit_b98 (fX7_limit_l49 m) (bz cF) 220 (i32 x) (i32 w) (i32 (k : Int)) h = some (i64 (tel (s60 v) (if w < 2 then w else w - 2)), h) ∧ IsC ks (decide (w < 2)) (x : Rat) v := by
      intro cF hiff
      unfold fX7_limit_b98
      by_cases c : w < 2
      · rw [if_neg (fun z => by have := (i32_le (a := 2) (b := w) ⟨by decide, by decide⟩ ⟨by omega, by omega⟩).mp z; omega), if_pos q.k220, q.r21, if_pos q.k236, q.l236, if_pos x0, n0, v.2.1]
        rw [if_pos c] at hiff
        by_cases c2 : lnT (ownL ks k) < x
        · rw [if_pos ((i32_lt bT bx).mpr c2)]
          exact key cF false (by rw [hiff]; simp; omega)
        · rw [if_neg (fun z => c2 ((i32_lt bT bx).mp z))]
          exact key cF true (by rw [hiff]; simp; omega)
      · rw [if_pos (show (2 : Int32) ≤ i32 w from (i32_le (a := 2) (b := w) ⟨by decide, by decide⟩ ⟨by omega, by omega⟩).mpr (by omega)), if_pos q.k220, q.r21, if_pos q.k236, q.l236, if_pos x0, n0, v.2.1]
        rw [if_neg c] at hiff
        by_cases c2 : lnT (ownL ks k) ≤ x
        · rw [if_pos ((i32_le bT bx).mpr c2)]
          exact key cF false (by rw [hiff]; simp; omega)
        · rw [if_neg (fun z => c2 ((i32_le bT bx).mp z))]
          exact key cF true (by rw [hiff]; simp; omega)
    by_cases c : w < 2
    · rw [if_neg (fun z => by have := (i32_le (a := 2) (b := w) ⟨by decide, by decide⟩ ⟨by omega, by omega⟩).mp z; omega), q.r20, if_pos q.k235, q.l235, if_pos x0, n0, v.1]
      rw [if_pos c] at lvw
      by_cases c2 : x ≤ lnF (ownL ks k)
      · rw [if_pos ((i32_le bx bF).mpr c2)]
        exact b98 false (by rw [lvw, if_pos c]; simp; omega)
      · rw [if_neg (fun z => c2 ((i32_le bx bF).mp z))]
        exact b98 true (by rw [lvw, if_pos c]; simp; omega)
    · rw [if_pos (show (2 : Int32) ≤ i32 w from (i32_le (a := 2) (b := w) ⟨by decide, by decide⟩ ⟨by omega, by omega⟩).mpr (by omega)), q.r20, if_pos q.k235, q.l235, if_pos x0, n0, v.1]
      rw [if_neg c] at lvw
      by_cases c2 : x < lnF (ownL ks k)
      · rw [if_pos ((i32_lt bx bF).mpr c2)]
        exact b98 false (by rw [lvw, if_neg c]; simp; omega)
      · rw [if_neg (fun z => c2 ((i32_lt bx bF).mp z))]
        exact b98 true (by rw [lvw, if_neg c]; simp; omega)
end MV
