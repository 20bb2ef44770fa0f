/-! BOTH SIDES ASKED: compare, the reference; both -/
def RvM (h : xH) (ob : Obs) : Prop := hI h 220 56 = bz (obM ob) ∧ hI h 220 54 = bz (obL ob) ∧ hI h 220 55 = bz (obH ob)
def A54 (r k : Nat) : Prop := r = 220 ∧ (k = 54 ∨ k = 55 ∨ k = 56)
theorem A54_ms {r k : Nat} (z : A54 r k) : MSc r k := by unfold A54 at z; unfold MSc; omega
section CM
variable {h : xH} {f g : List Kn} {x : Int} {ob : Obs}
theorem RvM.fr {h' : xH} {A : Nat → Nat → Prop} (V : RvM h ob) (F : Fr A h h') (hA : ¬ A 220 54 ∧ ¬ A 220 55 ∧ ¬ A 220 56) : RvM h' ob := by
  unfold RvM
  rw [(F.2.2 220 54 hA.1).1, (F.2.2 220 55 hA.2.1).1, (F.2.2 220 56 hA.2.2).1]
  exact V
theorem m_noteWay (q : Mo h) (V : RvM h ob) {a b : Rat} {z : Int} (l1 : sg z < 0 ↔ a < b) (l2 : 0 < sg z ↔ b < a) : ∃ h', fX7_noteWay 220 (i32 (sg z)) h = some ((), h') ∧ RvM h' (ob ++ [(a, b)]) ∧ Fr A54 h h' := by
  have oa := o_app ob a b
  have e1 : hI (sI h 220 56 1) 220 54 = bz (obL ob) := by rw [hI_sI, if_neg (by omega)]; exact V.2.1
  have b22 : ∀ l : Bool, fX7_noteWay_b22 (bz l) 220 220 (i32 (sg z)) (sI h 220 56 1) = some ((), sI (sI (sI h 220 56 1) 220 54 (bz l)) 220 55 (bz (obH ob || decide (0 < sg z)))) := by
    intro l
    unfold fX7_noteWay_b22 fX7_noteWay_b37 fX7_noteWay_b42
    have e2 : hI (sI (sI h 220 56 1) 220 54 (bz l)) 220 55 = bz (obH ob) := by rw [hI_sI, if_neg (by omega), hI_sI, if_neg (by omega)]; exact V.2.2
    have k0 : kc (sI h 220 56 1) 220 = 7 := q.k220
    have k1 : kc (sI (sI h 220 56 1) 220 54 (bz l)) 220 = 7 := q.k220
    rw [if_pos (bz_or l), if_pos k0, lt_def, if_pos k1, e2]
    cases obH ob
    · rw [if_pos bz_f]
      by_cases c : sg z ≤ 0
      · rw [if_pos ((si_le z).mpr c), if_pos (show (0 : Int32) = 0 ∨ (0 : Int32) = 1 from Or.inl rfl), if_pos k1, lt_def, decide_eq_false (by omega)]; rfl
      · rw [if_neg (fun y => c ((si_le z).mp y)), if_pos (show (1 : Int32) = 0 ∨ (1 : Int32) = 1 from Or.inr rfl), if_pos k1, lt_def, decide_eq_true (by omega)]; rfl
    · rw [if_neg bzt0, if_pos (show (1 : Int32) = 0 ∨ (1 : Int32) = 1 from Or.inr rfl), if_pos k1, lt_def]; rfl
  have fin : ∀ l : Bool, l = obL (ob ++ [(a, b)]) → ∃ h', fX7_noteWay_b22 (bz l) 220 220 (i32 (sg z)) (sI h 220 56 1) = some ((), h') ∧ RvM h' (ob ++ [(a, b)]) ∧ Fr A54 h h' := by
    intro l el
    refine ⟨_, b22 l, ?_, ((Fr.I _ ⟨rfl, by omega⟩).tr (Fr.I _ ⟨rfl, by omega⟩)).tr (Fr.I _ ⟨rfl, by omega⟩)⟩
    have dd : decide (0 < sg z) = decide (b < a) := decide_eq_decide.mpr l2
    rw [dd]
    refine ⟨?_, ?_, ?_⟩
    · rw [oa.1]; simp [hI_sI, bz]
    · rw [el]; simp [hI_sI]
    · rw [oa.2.2]; simp [hI_sI]
  unfold fX7_noteWay fX7_noteWay_b17
  rw [if_pos q.k220, lt_def, e1]
  simp only [si_ge]
  cases ho : obL ob
  · rw [if_pos bz_f]
    by_cases c : 0 ≤ sg z
    · rw [if_pos c]
      exact fin false (by rw [oa.2.1, ho, decide_eq_false (fun y => by have := l1.mpr y; omega)]; rfl)
    · rw [if_neg c]
      exact fin true (by rw [oa.2.1, ho, decide_eq_true (l1.mp (by omega))]; rfl)
  · rw [if_neg bzt0]
    exact fin true (by rw [oa.2.1, ho]; rfl)
def xx (f g : List Kn) (k : Nat) : Int := if k < f.length then kx f k else kx g (k - f.length)
noncomputable def sMv (f g : List Kn) (k : Nat) (ob : Obs) : Obs := ob ++ pr (vO f (xx f g k)) (vO g (xx f g k))
theorem m_c84 (q : Mo h) {i j : Nat} (hi : i < 6) (hj : j < 6) (R1 : Rwi h i f) (R2 : Rwi h j g) (O1 : StO f) (O2 : StO g) (hx : -5940 ≤ x ∧ x ≤ 5940) (V : RvM h ob) (r39 : Nat → Int32 → Int32 → Int32 → xH → Option (Int32 × xH)) (k : Int32) : ∃ h', fX7_compare_b84 r39 (i32 x) 220 (i32 i) (i32 j) k h = r39 220 (i32 i) (i32 j) (k + 1) h' ∧ RvM h' (ob ++ pr (vO f x) (vO g x)) ∧ Fr MSc h h' := by
  obtain ⟨g1, v1, E1, V1, N1, F1⟩ := m_hasValue q hi O1 R1 (x := x) (by omega)
  have q1 := F1.mo q
  obtain ⟨g2, v2, E2, V2, N2, F2⟩ := m_hasValue q1 hj O2 (R2.fr F1 MSv_222) (x := x) (by omega)
  have q2 := F2.mo q1
  have na : ¬ MSv 220 54 ∧ ¬ MSv 220 55 ∧ ¬ MSv 220 56 := by unfold MSv; omega
  have S1 := V.fr F1 na
  have S2 := S1.fr F2 na
  have f1 := F1.mono (B := MSc) (fun _ _ z => MSv_ms z)
  have f2 := F2.mono (B := MSc) (fun _ _ z => MSv_ms z)
  rw [vO_eq V1, vO_eq V2]
  unfold fX7_compare_b84 fX7_compare_b137
  rw [if_pos q.k220, E1, bd_some]
  cases v1 with
  | none => rw [if_pos (by rfl)]; exact ⟨g1, rfl, by unfold pr; rw [List.append_nil]; exact S1, f1⟩
  | some a =>
    obtain ⟨n1, d1, e1, e2, nb1, p1, db1, ea⟩ := N1 a rfl
    rw [if_neg (show ¬ bz (some a).isSome = 0 from bzt0), lt_def, lt_def, E2, bd_some, e1, e2]
    cases v2 with
    | none => rw [if_pos (by rfl)]; exact ⟨g2, rfl, by unfold pr; rw [List.append_nil]; exact S2, f1.tr f2⟩
    | some b =>
      obtain ⟨n2, d2, e3, e4, nb2, p2, db2, eb⟩ := N2 b rfl
      rw [if_neg (show ¬ bz (some b).isSome = 0 from bzt0), e3, e4, m_lie (a := n1) (b := d1) (c := n2) (d := d2) g2 ⟨by omega, by omega⟩ p1 ⟨by omega, by omega⟩ ⟨by omega, by omega⟩ p2 ⟨by omega, by omega⟩, bd_some]
      obtain ⟨g3, E3, V3, F3⟩ := m_noteWay q2 S2 (a := a) (b := b) (z := n1 * d2 - n2 * d1) (by rw [sq_lt p1 p2, ea, eb]) (by rw [sq_gt p1 p2, ea, eb])
      rw [E3, bd_some]
      exact ⟨g3, rfl, V3, (f1.tr f2).tr (F3.mono (fun _ _ z => A54_ms z))⟩
def trM (la lb : Ln) : Obs := if (if lnF lb < lnF la then lnF la else lnF lb) < (if lnT la < lnT lb then lnT la else lnT lb) then [(vl la ((if lnF lb < lnF la then lnF la else lnF lb : Int) : Rat), vl lb ((if lnF lb < lnF la then lnF la else lnF lb : Int) : Rat)), (vl la ((if lnT la < lnT lb then lnT la else lnT lb : Int) : Rat), vl lb ((if lnT la < lnT lb then lnT la else lnT lb : Int) : Rat))] else []
/-- the lines of two stores are laid -/
def Ow2 (h : xH) (f g : List Kn) : Prop := Lns h (lnn ((spL f).map lby ++ (spL g).map lby)) ((spL f).length + (spL g).length) ∧ hI h 220 19 = i32 (((spL f).length + (spL g).length : Nat) : Int)
theorem Ow2.fr {h' : xH} {A : Nat → Nat → Prop} (w : Ow2 h f g) (F : Fr A h h') (hA : ∀ k, ¬ A 235 k ∧ ¬ A 236 k ∧ ¬ A 237 k ∧ ¬ A 238 k ∧ ¬ A 239 k) (hA2 : ¬ A 220 19) : Ow2 h' f g := by
  refine ⟨fun k hk => ?_, by rw [(F.2.2 220 19 hA2).1]; exact w.2⟩
  have := w.1 k hk
  rw [(F.2.2 235 k (hA k).1).1, (F.2.2 236 k (hA k).2.1).1, (F.2.2 237 k (hA k).2.2.1).2, (F.2.2 238 k (hA k).2.2.2.1).2, (F.2.2 239 k (hA k).2.2.2.2).2]
  exact this
theorem ow2_l {m : Nat} (hm : m < (spL f).length) : lnn ((spL f).map lby ++ (spL g).map lby) m = ownL f m := by
  unfold ownL lnn
  rw [List.getElem?_append_left (by rw [List.length_map]; exact hm)]
theorem ow2_r {m : Nat} : lnn ((spL f).map lby ++ (spL g).map lby) ((spL f).length + m) = ownL g m := by
  unfold ownL lnn
  rw [List.getElem?_append_right (by rw [List.length_map]; omega), List.length_map, Nat.add_sub_cancel_left]
def sMb (la : Ln) (g : List Kn) (k : Nat) (ob : Obs) : Obs := ob ++ trM la (ownL g k)
def sMa (f g : List Kn) (k : Nat) (ob : Obs) : Obs := fo (sMb (ownL f k) g) (spL g).length 0 ob
theorem m_c175 (O1 : StO f) (O2 : StO g) {a : Nat} (ha : a < (spL f).length) (r166 : Nat → Int32 → Int32 → xH → Option (Int32 × xH)) : ∀ (d k m : Nat) (h : xH) (ob : Obs), k + d = (spL g).length → d < m → Mo h → Ow2 h f g → RvM h ob → ∃ h', fX7_compare_l175 r166 m 220 (i32 ((spL f).length : Int)) (i32 (a : Int)) (i32 (((spL f).length + k : Nat) : Int)) h = r166 220 (i32 ((spL f).length : Int)) (i32 ((a + 1 : Nat) : Int)) h' ∧ RvM h' (fo (sMb (ownL f a) g) d k ob) ∧ Fr A54 h h' := by
  have l1 := sp_len f
  have l2 := sp_len g
  have c1 := O1.1
  have c2 := O2.1
  have bA := own_bd O1.2.1 O1.2.2 ha
  intro d
  induction d with
  | zero =>
    intro k m h ob hk hm q W V
    obtain ⟨m, rfl⟩ : ∃ k, m = k + 1 := ⟨m - 1, by omega⟩
    refine ⟨h, ?_, V, Fr.rf h⟩
    show fX7_compare_b175 _ _ 220 _ _ _ h = _
    unfold fX7_compare_b175
    rw [if_pos q.k220, W.2, if_pos (by rw [show k = (spL g).length by omega]; exact Int32.le_refl _), lt_def, one32, i32_add, kp1]
  | succ d ih =>
    intro k m h ob hk hm q W V
    obtain ⟨m, rfl⟩ : ∃ k, m = k + 1 := ⟨m - 1, by omega⟩
    have hkl : k < (spL g).length := by omega
    have bB := own_bd O2.2.1 O2.2.2 hkl
    have wa := W.1 a (by omega)
    have wb := W.1 ((spL f).length + k) (by omega)
    rw [ow2_l ha] at wa
    rw [ow2_r] at wb
    have xa : ix (i32 (a : Int)) 700 := ix_i (by omega) (by omega) (by decide)
    have xb : ix (i32 (((spL f).length + k : Nat) : Int)) 700 := ix_i (by omega) (by omega) (by decide)
    have na : (i32 (a : Int)).toNatClampNeg = a := nat_i a (by omega)
    have nb : (i32 (((spL f).length + k : Nat) : Int)).toNatClampNeg = (spL f).length + k := nat_i _ (by omega)
    have hAn : ∀ k, ¬ A54 235 k ∧ ¬ A54 236 k ∧ ¬ A54 237 k ∧ ¬ A54 238 k ∧ ¬ A54 239 k := fun k => by unfold A54; omega
    have hAn2 : ¬ A54 220 19 := by unfold A54; omega
    have e1 : i32 (((spL f).length + k : Nat) : Int) + 1 = i32 (((spL f).length + (k + 1) : Nat) : Int) := by rw [one32, i32_add]; rfl
    have lie : ∀ (h : xH) (x : Int), Mo h → Ow2 h f g → -5940 ≤ x → x ≤ 5940 → ∃ z, fX7_lieAt 220 (i32 (a : Int)) (i32 (((spL f).length + k : Nat) : Int)) (i64 x) 1 h = some (i32 (sg z), h) ∧ (sg z < 0 ↔ vl (ownL f a) (x : Rat) < vl (ownL g k) (x : Rat)) ∧ (0 < sg z ↔ vl (ownL g k) (x : Rat) < vl (ownL f a) (x : Rat)) := by
      intro h x q W x1 x2
      obtain ⟨z, E, L1, L2⟩ := m_lieAt (MA := 200000000) (MB := 12000) (MC := 12000) (NP := 10000) (NQ := 1) ⟨by decide, by decide, by decide, by decide⟩ q W.1 (by omega) (show a < (spL f).length + (spL g).length by omega) (show (spL f).length + k < (spL f).length + (spL g).length by omega) (by rw [ow2_l ha]; exact bA.1) (by rw [ow2_r]; exact bB.1) (x := (x : Rat)) ⟨by show -10000 ≤ x; omega, by show x ≤ 10000; omega, by show ((1 : Nat) : Int) ≤ 1; decide⟩
      rw [Rat.num_intCast, int_den] at E
      rw [ow2_l ha, ow2_r] at L1 L2
      exact ⟨z, E, L1, L2⟩
    have step : ∃ h1, fX7_compare_b175 r166 (fX7_compare_l175 r166 m) 220 (i32 ((spL f).length : Int)) (i32 (a : Int)) (i32 (((spL f).length + k : Nat) : Int)) h = fX7_compare_l175 r166 m 220 (i32 ((spL f).length : Int)) (i32 (a : Int)) (i32 (((spL f).length + (k + 1) : Nat) : Int)) h1 ∧ RvM h1 (sMb (ownL f a) g k ob) ∧ Fr A54 h h1 := by
      unfold fX7_compare_b175 fX7_compare_b218 sMb trM
      have bFa : B32 (lnF (ownL f a)) := ⟨by omega, by omega⟩
      have bFb : B32 (lnF (ownL g k)) := ⟨by omega, by omega⟩
      have bTa : B32 (lnT (ownL f a)) := ⟨by omega, by omega⟩
      have bTb : B32 (lnT (ownL g k)) := ⟨by omega, by omega⟩
      simp only [q.k220, W.2, if_neg (nle32 (show (spL f).length + k < (spL f).length + (spL g).length by omega) (by omega)), q.r20, q.k235, q.l235, if_pos xa, if_pos xb, na, nb, wa.1, wb.1, wa.2.1, wb.2.1, q.r21, q.k236, q.l236, reduceIte, i32_le bFa bFb, i32_le bTb bTa]
      have fin : ∀ F T : Int, F = (if lnF (ownL g k) < lnF (ownL f a) then lnF (ownL f a) else lnF (ownL g k)) → T = (if lnT (ownL f a) < lnT (ownL g k) then lnT (ownL f a) else lnT (ownL g k)) → ∃ h1, fX7_compare_b254 r166 (fX7_compare_l175 r166 m) (i32 T) 220 (i32 ((spL f).length : Int)) (i32 (a : Int)) (i32 (((spL f).length + k : Nat) : Int)) (i32 F) h = fX7_compare_l175 r166 m 220 (i32 ((spL f).length : Int)) (i32 (a : Int)) (i32 (((spL f).length + (k + 1) : Nat) : Int)) h1 ∧ RvM h1 (ob ++ (if F < T then [(vl (ownL f a) (F : Rat), vl (ownL g k) (F : Rat)), (vl (ownL f a) (T : Rat), vl (ownL g k) (T : Rat))] else [])) ∧ Fr A54 h h1 := by
        intro F T eF eT
        have bF : -5940 ≤ F ∧ F ≤ 5940 := by rw [eF]; split <;> omega
        have bT : -5940 ≤ T ∧ T ≤ 5940 := by rw [eT]; split <;> omega
        unfold fX7_compare_b254 fX7_compare_b295
        by_cases c : F < T
        · rw [if_neg (fun z => by have := (i32_le (a := T) (b := F) ⟨by omega, by omega⟩ ⟨by omega, by omega⟩).mp z; omega), if_pos q.k220, i64_of32 ⟨by omega, by omega⟩, i64_of32 ⟨by omega, by omega⟩]
          obtain ⟨z1, E1, L1, L2⟩ := lie h F q W bF.1 bF.2
          obtain ⟨g1, G1, V1, F1⟩ := m_noteWay q V L1 L2
          have q1 := F1.mo q
          have W1 := W.fr F1 hAn hAn2
          obtain ⟨z2, E2, L3, L4⟩ := lie g1 T q1 W1 bT.1 bT.2
          obtain ⟨g2, G2, V2, F2⟩ := m_noteWay q1 V1 L3 L4
          rw [E1, bd_some, G1, bd_some, E2, bd_some, G2, bd_some, lt_def, e1, if_pos c]
          refine ⟨g2, rfl, ?_, F1.tr F2⟩
          rw [List.append_assoc] at V2
          exact V2
        · rw [if_pos ((i32_le (a := T) (b := F) ⟨by omega, by omega⟩ ⟨by omega, by omega⟩).mpr (by omega)), lt_def, e1, if_neg c]
          exact ⟨h, rfl, by rw [List.append_nil]; exact V, Fr.rf h⟩
      by_cases c1 : lnF (ownL f a) ≤ lnF (ownL g k)
      · rw [if_pos c1]
        by_cases c2 : lnT (ownL g k) ≤ lnT (ownL f a)
        · rw [if_pos c2]
          have := fin (lnF (ownL g k)) (lnT (ownL g k)) (by rw [if_neg (by omega)]) (by rw [if_neg (by omega)])
          rw [if_neg (show ¬ lnF (ownL g k) < lnF (ownL f a) by omega), if_neg (show ¬ lnT (ownL f a) < lnT (ownL g k) by omega)]
          exact this
        · rw [if_neg c2]
          have := fin (lnF (ownL g k)) (lnT (ownL f a)) (by rw [if_neg (by omega)]) (by rw [if_pos (by omega)])
          rw [if_neg (show ¬ lnF (ownL g k) < lnF (ownL f a) by omega), if_pos (show lnT (ownL f a) < lnT (ownL g k) by omega)]
          exact this
      · rw [if_neg c1]
        by_cases c2 : lnT (ownL g k) ≤ lnT (ownL f a)
        · rw [if_pos c2]
          have := fin (lnF (ownL f a)) (lnT (ownL g k)) (by rw [if_pos (by omega)]) (by rw [if_neg (by omega)])
          rw [if_pos (show lnF (ownL g k) < lnF (ownL f a) by omega), if_neg (show ¬ lnT (ownL f a) < lnT (ownL g k) by omega)]
          exact this
        · rw [if_neg c2]
          have := fin (lnF (ownL f a)) (lnT (ownL f a)) (by rw [if_pos (by omega)]) (by rw [if_pos (by omega)])
          rw [if_pos (show lnF (ownL g k) < lnF (ownL f a) by omega), if_pos (show lnT (ownL f a) < lnT (ownL g k) by omega)]
          exact this
    obtain ⟨h1, E1, V1, F1⟩ := step
    obtain ⟨h2, E2, V2, F2⟩ := ih (k + 1) m h1 _ (by omega) (by omega) (F1.mo q) (W.fr F1 hAn hAn2) V1
    refine ⟨h2, ?_, V2, F1.tr F2⟩
    show fX7_compare_b175 _ _ 220 _ _ _ h = _
    rw [E1]
    exact E2
theorem m_c166 (O1 : StO f) (O2 : StO g) : ∀ (d k m : Nat) (h : xH) (ob : Obs), k + d = (spL f).length → d < m → Mo h → Ow2 h f g → RvM h ob → ∃ h', fX7_compare_l166 m 220 (i32 ((spL f).length : Int)) (i32 (k : Int)) h = some (i32 (vdt (fo (sMa f g) d k ob)), h') ∧ Fr A54 h h' := by
  have l1 := sp_len f
  have l2 := sp_len g
  have c1 := O1.1
  have c2 := O2.1
  have hAn : ∀ k, ¬ A54 235 k ∧ ¬ A54 236 k ∧ ¬ A54 237 k ∧ ¬ A54 238 k ∧ ¬ A54 239 k := fun k => by unfold A54; omega
  have hAn2 : ¬ A54 220 19 := by unfold A54; omega
  intro d
  induction d with
  | zero =>
    intro k m h ob hk hm q W V
    obtain ⟨m, rfl⟩ : ∃ k, m = k + 1 := ⟨m - 1, by omega⟩
    refine ⟨h, ?_, Fr.rf h⟩
    show fX7_compare_b166 _ 220 _ _ h = _
    unfold fX7_compare_b166 fX7_compare_b336 fo vdt
    rw [if_pos (by rw [show k = (spL f).length by omega]; exact Int32.le_refl _), if_pos q.k220, if_pos q.k220, V.1, V.2.1, V.2.2]
    cases obM ob <;> cases obL ob <;> cases obH ob <;> rfl
  | succ d ih =>
    intro k m h ob hk hm q W V
    obtain ⟨m, rfl⟩ : ∃ k, m = k + 1 := ⟨m - 1, by omega⟩
    have hkl : k < (spL f).length := by omega
    obtain ⟨h1, E1, V1, F1⟩ := m_c175 O1 O2 hkl (fX7_compare_l166 m) (spL g).length 0 FU h ob (by omega) (by rw [FU_eq]; omega) q W V
    obtain ⟨h2, E2, F2⟩ := ih (k + 1) m h1 _ (by omega) (by omega) (F1.mo q) (W.fr F1 hAn hAn2) V1
    refine ⟨h2, ?_, F1.tr F2⟩
    show fX7_compare_b166 _ 220 _ _ h = _
    unfold fX7_compare_b166
    rw [if_neg (nle32 hkl (by omega))]
    rw [Nat.add_zero] at E1
    rw [E1]
    exact E2
end CM
