/-! THE REFERENCE'S STORES: many, xOf, yOf, goes, isLone, lineBy, laySpans, linesOf -/
def Rwi (h : xH) (i : Nat) (ks : List Kn) : Prop := hI h 222 (37 * i) = i32 ks.length ∧ ∀ k, k < ks.length → hI h 222 (37 * i + 1 + 3 * k) = i32 (kx ks k) ∧ hI h 222 (37 * i + 2 + 3 * k) = i32 (ky ks k) ∧ hI h 222 (37 * i + 3 + 3 * k) = bz (kg ks k)
theorem s37 : (37 : Int32) = i32 37 := rfl
section MS
variable {h : xH} {i : Nat} {ks : List Kn}
theorem m_many (q : Mo h) (hi : i < 6) (R : Rwi h i ks) : fX7_many 220 (i32 i) h = some (i32 ks.length, h) := by
  unfold fX7_many
  have e0 : (i32 (37 * (i : Int))).toNatClampNeg = 37 * i := by rw [i32_nat (by omega) (by omega)]; omega
  have x0 : ix (i32 (37 * (i : Int))) 222 := ix_i (by omega) (by omega) (by decide)
  simp only [q.k220, q.r3, q.k222, q.l222, s37, i32_mul, if_pos x0, e0, R.1, reduceIte]
theorem m_xOf (q : Mo h) (hi : i < 6) (h12 : ks.length ≤ 12) (R : Rwi h i ks) {k : Nat} (hk : k < ks.length) : fX7_xOf 220 (i32 i) (i32 k) h = some (i32 (kx ks k), h) := by
  unfold fX7_xOf
  have e0 : (i32 (37 * (i : Int) + 1 + 3 * (k : Int))).toNatClampNeg = 37 * i + 1 + 3 * k := by rw [i32_nat (by omega) (by omega)]; omega
  have x0 : ix (i32 (37 * (i : Int) + 1 + 3 * (k : Int))) 222 := ix_i (by omega) (by omega) (by decide)
  simp only [q.k220, q.r3, q.k222, q.l222, s37, one32, thr32, i32_mul, i32_add, if_pos x0, e0, (R.2 k hk).1, reduceIte]
theorem m_yOf (q : Mo h) (hi : i < 6) (h12 : ks.length ≤ 12) (R : Rwi h i ks) {k : Nat} (hk : k < ks.length) : fX7_yOf 220 (i32 i) (i32 k) h = some (i32 (ky ks k), h) := by
  unfold fX7_yOf
  have e0 : (i32 (37 * (i : Int) + 2 + 3 * (k : Int))).toNatClampNeg = 37 * i + 2 + 3 * k := by rw [i32_nat (by omega) (by omega)]; omega
  have x0 : ix (i32 (37 * (i : Int) + 2 + 3 * (k : Int))) 222 := ix_i (by omega) (by omega) (by decide)
  simp only [q.k220, q.r3, q.k222, q.l222, s37, two32, thr32, i32_mul, i32_add, if_pos x0, e0, (R.2 k hk).2.1, reduceIte]
theorem m_goes (q : Mo h) (hi : i < 6) (h12 : ks.length ≤ 12) (R : Rwi h i ks) {k : Nat} (hk : k < ks.length) : fX7_goes 220 (i32 i) (i32 k) h = some (bz (kg ks k), h) := by
  unfold fX7_goes
  have e0 : (i32 (37 * (i : Int) + 3 + 3 * (k : Int))).toNatClampNeg = 37 * i + 3 + 3 * k := by rw [i32_nat (by omega) (by omega)]; omega
  have x0 : ix (i32 (37 * (i : Int) + 3 + 3 * (k : Int))) 222 := ix_i (by omega) (by omega) (by decide)
  simp only [q.k220, q.r3, q.k222, q.l222, s37, thr32, i32_mul, i32_add, if_pos x0, e0, (R.2 k hk).2.2, reduceIte]
  cases kg ks k
  · rw [if_neg (by decide)]; rfl
  · rw [if_pos bz_t]; rfl
theorem m_isLone (q : Mo h) (hi : i < 6) (h12 : ks.length ≤ 12) (R : Rwi h i ks) {k : Nat} (hk : k < ks.length) : fX7_isLone 220 (i32 i) (i32 k) h = some (bz (!(kg ks k) && (decide (k = 0) || !(kg ks (k - 1)))), h) := by
  unfold fX7_isLone fX7_isLone_b24
  rw [if_pos q.k220, m_goes q hi h12 R hk, bd_some]
  cases c : kg ks k
  · rw [if_pos (show bz false = 0 from rfl)]
    by_cases c0 : k = 0
    · rw [if_pos (by rw [c0]; rfl)]; simp [c0, bz]
    · rw [if_neg (fun z => c0 (by have := (i32_eq (b := 0) ⟨by omega, by omega⟩ ⟨by decide, by decide⟩).mp z; omega)), one32, i32_sub, show (k : Int) - 1 = ((k - 1 : Nat) : Int) by omega, m_goes q hi h12 R (show k - 1 < ks.length by omega), bd_some]
      cases kg ks (k - 1)
      · rw [if_pos (show bz false = 0 from rfl)]; simp [c0, bz]; rfl
      · rw [if_neg bzt0]; simp [c0, bz]
  · rw [if_neg bzt0]; simp [bz]
def AI (r k : Nat) : Prop := r = 235 ∨ r = 236 ∨ r = 237 ∨ r = 238 ∨ r = 239 ∨ (r = 220 ∧ k = 19)
theorem m_lineBy (q : Mo h) {ll : List Ln} (w : Lnl h ll) (hl : ll.length < 700) {x1 y1 x2 y2 : Int} (b1 : B32 x1) (b2 : B32 x2) : ∃ h', fX7_lineBy 220 (i64 x1) (i64 y1) (i64 x2) (i64 y2) h = some ((), h') ∧ Lnl h' (ll ++ [lby (x1, y1, x2, y2)]) ∧ Fr AI h h' := by
  have key : ∀ (a b : Int) (A B C : Int), ∃ h', fX7_line 220 (i32 a) (i32 b) (i64 A) (i64 B) (i64 C) h = some ((), h') ∧ Lnl h' (ll ++ [(a, b, A, B, C)]) ∧ Fr AI h h' := by
    intro a b A B C
    refine ⟨_, m_line q hl w.1 _ _ _ _ _, ⟨?_, fun k l e => ?_⟩, ?_⟩
    · rw [hI_sI, if_pos ⟨rfl, rfl⟩, List.length_append]; rfl
    · simp only [hI_sI, hJ_sI, hI_sJ, hJ_sJ]
      rcases app_at e with ⟨hk, e2⟩ | ⟨hk, e2⟩
      · have v := w.2 k l e2
        rw [if_neg (by omega), if_neg (by omega), if_neg (by omega), if_neg (by omega), if_neg (by omega), if_neg (by omega), if_neg (by omega), if_neg (by omega), if_neg (by omega), if_neg (by omega), if_neg (by omega), if_neg (by omega), if_neg (by omega), if_neg (by omega), if_neg (by omega)]
        exact v
      · subst hk; rw [e2]
        simp [lnF, lnT, lnA, lnB, lnC]
    · exact (((((Fr.I _ (Or.inl rfl)).tr (Fr.I _ (Or.inr (Or.inl rfl)))).tr (Fr.J _ (Or.inr (Or.inr (Or.inl rfl))))).tr (Fr.J _ (Or.inr (Or.inr (Or.inr (Or.inl rfl)))))).tr (Fr.J _ (Or.inr (Or.inr (Or.inr (Or.inr (Or.inl rfl))))))).tr (Fr.I _ (Or.inr (Or.inr (Or.inr (Or.inr (Or.inr ⟨rfl, rfl⟩))))))
  have B1 : B64 x1 := ⟨by have := b1.1; omega, by have := b1.2; omega⟩
  have B2 : B64 x2 := ⟨by have := b2.1; omega, by have := b2.2; omega⟩
  unfold fX7_lineBy lby
  simp only
  by_cases c : x1 = x2
  · rw [if_pos ((lz_eq B1 B2).mpr c), if_pos q.k220, i32_of64, i32_of64, z64, o64, if_pos c]
    obtain ⟨h', E, A, F⟩ := key x1 x2 y1 0 1
    exact ⟨h', by rw [E, bd_some], A, F⟩
  · rw [if_neg (fun z => c ((lz_eq B1 B2).mp z)), if_pos q.k220, i32_of64, i32_of64, i64_sub, i64_sub, i64_mul, i64_mul, i64_sub, if_neg c]
    obtain ⟨h', E, A, F⟩ := key x1 x2 (y1 * (x2 - x1) - (y2 - y1) * x1) (y2 - y1) (x2 - x1)
    exact ⟨h', by rw [E, bd_some], A, F⟩
/-- the ends of spans from a place on -/
def Ens (h : xH) (a : Nat) (sp : List Spn) : Prop := ∀ (j : Nat) (p : Spn), sp[j]? = some p → hI h 240 (a + 4 * j) = i32 p.1 ∧ hI h 240 (a + 4 * j + 1) = i32 p.2.1 ∧ hI h 240 (a + 4 * j + 2) = i32 p.2.2.1 ∧ hI h 240 (a + 4 * j + 3) = i32 p.2.2.2
def AE (a : Nat) (r k : Nat) : Prop := (r = 240 ∧ a ≤ k ∧ k < a + 48) ∨ (r = 220 ∧ k = 26)
theorem Rwi.fr {A : Nat → Nat → Prop} {h' : xH} (R : Rwi h i ks) (f : Fr A h h') (hA : ∀ k, ¬ A 222 k) : Rwi h' i ks := by
  refine ⟨by rw [(f.2.2 222 _ (hA _)).1]; exact R.1, fun k hk => ?_⟩
  rw [(f.2.2 222 _ (hA _)).1, (f.2.2 222 _ (hA _)).1, (f.2.2 222 _ (hA _)).1]
  exact R.2 k hk
theorem m_ls50 {a : Nat} (ha : a = 0 ∨ a = 48) (q : Mo h) (hi : i < 6) (h12 : ks.length ≤ 12) (R : Rwi h i ks) {sp : List Spn} (E : Ens h a sp) (c : hI h 220 26 = i32 sp.length) (hl : sp.length < 12) {k o : Nat} (hk : k < ks.length) (ho : o < ks.length) (g : Nat → Int32 → Int32 → Int32 → xH → Option (Unit × xH)) : ∃ h', fX7_laySpans_b50 g (i32 o) 220 (i32 i) (i32 a) (i32 k) h = g 220 (i32 i) (i32 a) (i32 ((k + 1 : Nat) : Int)) h' ∧ Ens h' a (sp ++ [(kx ks k, ky ks k, kx ks o, ky ks o)]) ∧ hI h' 220 26 = i32 ((sp.length + 1 : Nat) : Int) ∧ Fr (AE a) h h' := by
  have e0 : (i32 ((a : Int) + 4 * (sp.length : Int))).toNatClampNeg = a + 4 * sp.length := by rw [i32_nat (by omega) (by omega)]; omega
  have e1 : (i32 ((a : Int) + 4 * (sp.length : Int) + 1)).toNatClampNeg = a + 4 * sp.length + 1 := by rw [i32_nat (by omega) (by omega)]; omega
  have e2 : (i32 ((a : Int) + 4 * (sp.length : Int) + 2)).toNatClampNeg = a + 4 * sp.length + 2 := by rw [i32_nat (by omega) (by omega)]; omega
  have e3 : (i32 ((a : Int) + 4 * (sp.length : Int) + 3)).toNatClampNeg = a + 4 * sp.length + 3 := by rw [i32_nat (by omega) (by omega)]; omega
  have x0 : ix (i32 ((a : Int) + 4 * (sp.length : Int))) 96 := ix_i (by omega) (by omega) (by decide)
  have x1 : ix (i32 ((a : Int) + 4 * (sp.length : Int) + 1)) 96 := ix_i (by omega) (by omega) (by decide)
  have x2 : ix (i32 ((a : Int) + 4 * (sp.length : Int) + 2)) 96 := ix_i (by omega) (by omega) (by decide)
  have x3 : ix (i32 ((a : Int) + 4 * (sp.length : Int) + 3)) 96 := ix_i (by omega) (by omega) (by decide)
  have fI : ∀ (g : xH) (k : Nat) (v : Int32), a ≤ k → k < a + 48 → Fr (AE a) g (sI g 240 k v) := fun g k v z1 z2 => Fr.I _ (Or.inl ⟨rfl, z1, z2⟩)
  have nA : ∀ k, ¬ AE a 222 k := fun k z => by unfold AE at z; omega
  have c4 : ∀ (k1 k2 k3 k4 : Nat) (v1 v2 v3 v4 : Int32), hI (sI (sI (sI (sI h 240 k1 v1) 240 k2 v2) 240 k3 v3) 240 k4 v4) 220 26 = i32 sp.length := by
    intro k1 k2 k3 k4 v1 v2 v3 v4
    rw [hI_sI, if_neg (by omega), hI_sI, if_neg (by omega), hI_sI, if_neg (by omega), hI_sI, if_neg (by omega)]
    exact c
  have f1 := fI h (a + 4 * sp.length) (i32 (kx ks k)) (by omega) (by omega)
  have f2 := f1.tr (fI _ (a + 4 * sp.length + 1) (i32 (ky ks k)) (by omega) (by omega))
  have f3 := f2.tr (fI _ (a + 4 * sp.length + 2) (i32 (kx ks o)) (by omega) (by omega))
  have f4 := f3.tr (fI _ (a + 4 * sp.length + 3) (i32 (ky ks o)) (by omega) (by omega))
  have f5 := f4.tr (Fr.I (r := 220) (k := 26) (i32 ((sp.length : Int) + 1)) (Or.inr ⟨rfl, rfl⟩))
  refine ⟨_, ?_, ?_, ?_, f5⟩
  · unfold fX7_laySpans_b50 fX7_laySpans_b132
    rw [if_pos q.k220, c, lt_def, fou32, i32_mul, i32_add, m_xOf q hi h12 R hk, bd_some, q.r25, if_pos q.k240, q.l240, if_pos x0, lt_def, e0, m_yOf (f1.mo q) hi h12 (R.fr f1 nA) hk, bd_some, (f1.mo q).r25, if_pos (f1.mo q).k240, (f1.mo q).l240, one32, i32_add, if_pos x1, lt_def, e1, m_xOf (f2.mo q) hi h12 (R.fr f2 nA) ho, bd_some, (f2.mo q).r25, if_pos (f2.mo q).k240, (f2.mo q).l240, two32, i32_add, if_pos x2, lt_def, e2, m_yOf (f3.mo q) hi h12 (R.fr f3 nA) ho, bd_some, (f3.mo q).r25, if_pos (f3.mo q).k240, (f3.mo q).l240, thr32, i32_add, if_pos x3, lt_def, e3, lt_def, lt_def, c4, i32_add, i32_add]
    rfl
  · intro j p e
    simp only [hI_sI]
    rcases app_at e with ⟨hj, e4⟩ | ⟨hj, e4⟩
    · have v := E j p e4
      rw [if_neg (by omega), if_neg (by omega), if_neg (by omega), if_neg (by omega), if_neg (by omega), if_neg (by omega), if_neg (by omega), if_neg (by omega), if_neg (by omega), if_neg (by omega), if_neg (by omega), if_neg (by omega), if_neg (by omega), if_neg (by omega), if_neg (by omega), if_neg (by omega), if_neg (by omega), if_neg (by omega), if_neg (by omega), if_neg (by omega)]
      exact v
    · subst hj; rw [e4]
      simp
  · rw [hI_sI, if_pos ⟨rfl, rfl⟩]; rfl
end MS
