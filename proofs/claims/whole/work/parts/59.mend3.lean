/-! THE REFERENCE'S end, the last stretch -/
def SdI (L : Nat → Ln) (n : Nat) (x : Rat) (a : Int) (u : Option (Rat × Rat)) : Prop := (a = -1 ∧ u = none) ∨ ∃ o : Nat, a = o ∧ o < n ∧ u = some (vl (L o) x, sl (L o))
section EN
variable {MA MB MC NP NQ : Int} {L : Nat → Ln} {n : Nat} {h : xH} {ks : List Kn} {x : Rat} {a b : Int} {ua ub : Option (Rat × Rat)} {e : Nat}
def CxE (MA MB MC NP NQ : Int) (L : Nat → Ln) (n : Nat) (x : Rat) (h : xH) : Prop := Kon MA MB MC NP NQ ∧ Mo h ∧ Lns h L n ∧ n ≤ 700 ∧ (∀ k, k < n → LBd MA MB MC (L k)) ∧ Pt NP NQ x
theorem CxE.fr {A : Nat → Nat → Prop} {h' : xH} (u : CxE MA MB MC NP NQ L n x h) (f : Fr A h h') (hA : ∀ r k, 235 ≤ r → r < 240 → ¬ A r k) : CxE MA MB MC NP NQ L n x h' := ⟨u.1, f.mo u.2.1, u.2.2.1.fr f hA, u.2.2.2⟩
theorem AK_ln (r k : Nat) (h1 : 235 ≤ r) (h2 : r < 240) : ¬ AK r k := by unfold AK; omega
theorem m_kn (u : CxE MA MB MC NP NQ L n x h) {o : Nat} (ho : o < n) (K : Kp h ks) (hs : ks.length < 1600) (g : Bool) : ∃ h', fX7_knot 220 (i64 x.num) (i64 x.den) (i32 o) (bz g) h = some ((), h') ∧ Kp h' (ks ++ [(x, vl (L o) x, g)]) ∧ Fr AK h h' := m_knot u.1 u.2.1 u.2.2.1 u.2.2.2.1 ho (u.2.2.2.2.1 o ho) u.2.2.2.2.2 K hs g
theorem ne_m1 {o : Nat} (ho : o < 700) : ¬ i32 (o : Int) = (-1 : Int32) := fun z => by
  rw [m1_32] at z
  have := (i32_eq ⟨by omega, by omega⟩ ⟨by omega, by omega⟩).mp z
  omega
theorem m_e312 (u : CxE MA MB MC NP NQ L n x h) (hb : SdI L n x b ub) (K : Kp h ks) (hs : ks.length + (ub.map (fun w => (x, w.1, true))).toList.length ≤ 1600) : ∃ h', fX7_end_b312 220 (i64 x.num) (i64 x.den) (i32 b) h = some ((), h') ∧ Kp h' (ks ++ (ub.map (fun w => (x, w.1, true))).toList) ∧ Fr AK h h' := by
  unfold fX7_end_b312
  rcases hb with ⟨e1, e2⟩ | ⟨o, e1, ho, e2⟩
  · rw [e1, if_pos m1_32.symm, e2]
    exact ⟨h, rfl, by simpa using K, Fr.rf h⟩
  · rw [e2] at hs ⊢
    have hn := u.2.2.2.1
    obtain ⟨h', G, K1, F1⟩ := m_kn u ho K (by simp at hs; omega) true
    exact ⟨h', by rw [e1, if_neg (ne_m1 (by omega)), if_pos u.2.1.k220]; rw [bz_t] at G; rw [G, bd_some], K1, F1⟩
theorem m_e298 (u : CxE MA MB MC NP NQ L n x h) (hb : SdI L n x b ub) (he : e < n) (ml : Bool) (K : Kp h ks) (hs : ks.length + ((if ml = true then [(x, vl (L e) x, false)] else []) ++ (ub.map (fun w => (x, w.1, true))).toList).length ≤ 1600) : ∃ h', fX7_end_b298 220 (i64 x.num) (i64 x.den) (i32 b) (i32 e) (bz ml) h = some ((), h') ∧ Kp h' (ks ++ ((if ml = true then [(x, vl (L e) x, false)] else []) ++ (ub.map (fun w => (x, w.1, true))).toList)) ∧ Fr AK h h' := by
  unfold fX7_end_b298
  cases ml with
  | false =>
    rw [bz_f, if_pos rfl]
    simp only [Bool.false_eq_true, if_false, List.nil_append] at hs ⊢
    exact m_e312 u hb K hs
  | true =>
    simp only [if_true] at hs ⊢
    rw [bz_t, if_neg (by decide), if_pos u.2.1.k220]
    obtain ⟨h1, G, K1, F1⟩ := m_kn u he K (by simp at hs; omega) false
    obtain ⟨h2, G2, K2, F2⟩ := m_e312 (u.fr F1 AK_ln) hb K1 (by simp at hs ⊢; omega)
    rw [bz_f] at G
    exact ⟨h2, by rw [G, bd_some, G2], by rw [List.append_assoc] at K2; exact K2, F1.tr F2⟩
theorem m_e219 (u : CxE MA MB MC NP NQ L n x h) (ha : SdI L n x a ua) (hb : SdI L n x b ub) (he : e < n) (ml : Bool) (K : Kp h ks) (hs : ks.length + ((ua.map (fun u => (x, u.1, false))).toList ++ ((if ml = true then [(x, vl (L e) x, false)] else []) ++ (ub.map (fun w => (x, w.1, true))).toList)).length ≤ 1600) : ∃ h', fX7_end_b219 220 (i64 x.num) (i64 x.den) (i32 a) (i32 b) (i32 e) (bz ml) h = some ((), h') ∧ Kp h' (ks ++ ((ua.map (fun u => (x, u.1, false))).toList ++ ((if ml = true then [(x, vl (L e) x, false)] else []) ++ (ub.map (fun w => (x, w.1, true))).toList))) ∧ Fr AK h h' := by
  unfold fX7_end_b219 fX7_end_b220
  rw [if_pos rfl]
  rcases ha with ⟨e1, e2⟩ | ⟨o, e1, ho, e2⟩
  · rw [e2] at hs ⊢
    rw [e1, if_pos m1_32.symm]
    simp only [Option.map_none, Option.toList_none, List.nil_append] at hs ⊢
    exact m_e298 u hb he ml K hs
  · rw [e2] at hs ⊢
    have hn := u.2.2.2.1
    obtain ⟨h1, G, K1, F1⟩ := m_kn u ho K (by simp at hs; omega) false
    obtain ⟨h2, G2, K2, F2⟩ := m_e298 (u.fr F1 AK_ln) hb he ml K1 (by simp at hs ⊢; omega)
    rw [bz_f] at G
    refine ⟨h2, by rw [e1, if_neg (ne_m1 (by omega)), if_pos u.2.1.k220, G, bd_some, G2], ?_, F1.tr F2⟩
    rw [List.append_assoc] at K2; exact K2
theorem sl_eq {l o : Ln} (hl : 0 < lnC l) (ho : 0 < lnC o) : lnB l * lnC o = lnB o * lnC l ↔ sl l = sl o := by
  have hc := cast_ne (show lnC l ≠ 0 by omega)
  have hd := cast_ne (show lnC o ≠ 0 by omega)
  have e : (lnB l * lnC o = lnB o * lnC l) ↔ ((lnB l : Rat) * (lnC o : Rat) = (lnB o : Rat) * (lnC l : Rat)) := by
    rw [← Rat.intCast_mul, ← Rat.intCast_mul]; exact ⟨fun z => by rw [z], fun z => by exact_mod_cast z⟩
  rw [e]
  unfold sl
  generalize (lnC l : Rat) = c at *
  generalize (lnC o : Rat) = d at *
  generalize (lnB l : Rat) = p at *
  generalize (lnB o : Rat) = r at *
  constructor
  · intro z; grind
  · intro z; grind
theorem m_e183 (u : CxE MA MB MC NP NQ L n x h) (kb : MB * MC ≤ 4611686018427387904) (ha : SdI L n x a ua) (hb : SdI L n x b ub) (he : e < n) (K : Kp h ks) (hs : ks.length + (kno x ua ub (some (vl (L e) x))).length ≤ 1600) : ∃ h', fX7_end_b183 (bz (loneB ua ub (some (vl (L e) x)))) 220 (i64 x.num) (i64 x.den) (i32 a) (i32 b) (i32 e) h = some ((), h') ∧ Kp h' (ks ++ kno x ua ub (some (vl (L e) x))) ∧ Fr AK h h' := by
  have hn := u.2.2.2.1
  unfold kno at hs ⊢
  have hcm : ∀ ml : Bool, (if ml = true then (Option.map (fun v => (x, v, false)) (some (vl (L e) x))).toList else ([] : List Kn)) = (if ml = true then [(x, vl (L e) x, false)] else []) := fun ml => rfl
  rw [hcm] at hs ⊢
  generalize loneB ua ub (some (vl (L e) x)) = ml at *
  unfold fX7_end_b183
  cases ml with
  | true =>
    rw [bz_t, if_neg (by decide)]
    simp only [Bool.not_true, Bool.false_and, Bool.false_eq_true, if_false] at hs ⊢
    have := m_e219 (ml := true) u ha hb he K hs
    rw [bz_t] at this
    exact this
  | false =>
    rw [bz_f, if_pos rfl]
    simp only [Bool.not_false, Bool.true_and] at hs ⊢
    have base : meetsB ua ub = false → ∃ h', fX7_end_b219 220 (i64 x.num) (i64 x.den) (i32 a) (i32 b) (i32 e) 0 h = some ((), h') ∧ Kp h' (ks ++ (if meetsB ua ub = true then (if strB ua ub = true then [] else (ub.map (fun w => (x, w.1, true))).toList) else (ua.map (fun u => (x, u.1, false))).toList ++ ((if false = true then [(x, vl (L e) x, false)] else []) ++ (ub.map (fun w => (x, w.1, true))).toList))) ∧ Fr AK h h' := by
      intro hm
      rw [hm] at hs ⊢
      rw [if_neg (by decide)] at hs ⊢
      have := m_e219 (ml := false) u ha hb he K hs
      rw [bz_f] at this
      exact this
    rcases ha with ⟨e1, e2⟩ | ⟨o, e1, ho, e2⟩
    · rw [e1] at base ⊢
      rw [if_pos m1_32.symm]
      exact base (by rw [e2]; rfl)
    · rw [e1] at base ⊢
      rw [if_neg (ne_m1 (by omega))]
      rcases hb with ⟨e3, e4⟩ | ⟨p, e3, hp, e4⟩
      · rw [e3] at base ⊢
        rw [if_pos m1_32.symm]
        exact base (by rw [e2, e4]; rfl)
      · rw [e3] at base ⊢
        rw [if_neg (ne_m1 (by omega)), if_pos u.2.1.k220]
        obtain ⟨z, E, A, C⟩ := m_lieAt u.1 u.2.1 u.2.2.1 hn ho hp (u.2.2.2.2.1 o ho) (u.2.2.2.2.1 p hp) u.2.2.2.2.2
        rw [E, bd_some]
        by_cases c1 : vl (L o) x = vl (L p) x
        · have z0 : sg z = 0 := by
            have h1 : ¬ sg z < 0 := fun y => by have := A.mp y; grind
            have h2 : ¬ 0 < sg z := fun y => by have := C.mp y; grind
            omega
          rw [if_pos ((si_eq _).mpr z0)]
          have hm : meetsB ua ub = true := by rw [e2, e4]; unfold meetsB; simp; exact c1
          rw [hm, if_pos rfl] at hs ⊢
          unfold fX7_end_b220 fX7_end_b266
          have e5 := nat_i o (by omega)
          have e6 := nat_i p (by omega)
          have x1 : ix (i32 o) 700 := ix_i (by omega) (by omega) (by decide)
          have x2 : ix (i32 p) 700 := ix_i (by omega) (by omega) (by decide)
          have wo := u.2.2.1 o ho
          have wp := u.2.2.1 p hp
          have bo := u.2.2.2.2.1 o ho
          have bp := u.2.2.2.2.1 p hp
          have q := u.2.1
          have m1 := mul_b bo.2.1 (N := MC) (b := lnC (L p)) ⟨by have := bp.2.2.1; have := bp.2.2.2; omega, bp.2.2.2⟩
          have m2 := mul_b bp.2.1 (N := MC) (b := lnC (L o)) ⟨by have := bo.2.2.1; have := bo.2.2.2; omega, bo.2.2.2⟩
          have B1 : B64 (lnB (L o) * lnC (L p)) := ⟨by omega, by omega⟩
          have B2 : B64 (lnB (L p) * lnC (L o)) := ⟨by omega, by omega⟩
          rw [if_neg (by decide)]
          simp only [q.k220, q.r23, q.r24, q.k238, q.k239, q.l238, q.l239, if_pos x1, if_pos x2, e5, e6, wo.2.2.2.1, wo.2.2.2.2, wp.2.2.2.1, wp.2.2.2.2, i64_mul, reduceIte]
          by_cases c2 : sl (L o) = sl (L p)
          · have hst : strB ua ub = true := by rw [e2, e4]; unfold strB; simp; exact c2
            rw [if_pos ((lz_eq B1 B2).mpr ((sl_eq bo.2.2.1 bp.2.2.1).mpr c2)), if_neg (by decide), hst, if_pos rfl]
            exact ⟨h, rfl, by simpa using K, Fr.rf h⟩
          · have hst : strB ua ub = false := by rw [e2, e4]; unfold strB; simp; exact c2
            rw [if_neg (fun y => c2 ((sl_eq bo.2.2.1 bp.2.2.1).mp ((lz_eq B1 B2).mp y)))]
            rw [hst, if_neg (by decide), e4] at hs ⊢
            obtain ⟨h1, G, K1, F1⟩ := m_kn u ho K (by simp at hs; omega) true
            rw [bz_t] at G
            refine ⟨h1, by rw [G, bd_some], ?_, F1⟩
            rw [c1] at K1; exact K1
        · rw [if_neg (fun y => by
            have y2 := (si_eq _).mp y
            have h1 : ¬ vl (L o) x < vl (L p) x := fun t => by have := A.mpr t; omega
            have h2 : ¬ vl (L p) x < vl (L o) x := fun t => by have := C.mpr t; omega
            grind)]
          exact base (by rw [e2, e4]; unfold meetsB; simp; exact c1)
end EN
