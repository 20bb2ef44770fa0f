/-! THE REFERENCE'S KNOTS: knot, leastAt, end -/
def Row4 (h : xH) (ks : List Kn) : Prop := ∀ i k, ks[i]? = some k → hJ h 223 (4 * i) = i64 k.1.num ∧ hJ h 223 (4 * i + 1) = i64 k.1.den ∧ hJ h 223 (4 * i + 2) = i64 k.2.1.num ∧ hJ h 223 (4 * i + 3) = i64 k.2.1.den ∧ hI h 224 i = bz k.2.2
def Kp (h : xH) (ks : List Kn) : Prop := Row4 h ks ∧ hI h 220 4 = i32 ks.length
def AK (r k : Nat) : Prop := r = 223 ∨ r = 224 ∨ (r = 220 ∧ k = 4)
theorem hI_ss (h : xH) (r k : Nat) (v : Int32) (k' : Nat) : hI (sI h r k v) r k' = if k' = k then v else hI h r k' := by
  rw [hI_sI]
  by_cases e : k' = k
  · rw [if_pos ⟨rfl, e⟩, if_pos e]
  · rw [if_neg (fun z => e z.2), if_neg e]
section EN
variable {MA MB MC NP NQ : Int} {L : Nat → Ln} {n o : Nat} {h : xH} {ks : List Kn} {x : Rat}
theorem m_knot (kk : Kon MA MB MC NP NQ) (q : Mo h) (w : Lns h L n) (hn : n ≤ 700) (ho : o < n) (bo : LBd MA MB MC (L o)) (hx : Pt NP NQ x) (K : Kp h ks) (hs : ks.length < 1600) (g : Bool) : ∃ h', fX7_knot 220 (i64 x.num) (i64 x.den) (i32 o) (bz g) h = some ((), h') ∧ Kp h' (ks ++ [(x, vl (L o) x, g)]) ∧ Fr AK h h' := by
  have u1 := mul_b bo.1 hx.dp
  have u2 := mul_b bo.2.1 ⟨hx.1, hx.2.1⟩
  have u3 := mul_b (M := MC) ⟨by have := bo.2.2.1; have := bo.2.2.2; omega, bo.2.2.2⟩ hx.dp
  have u4 := Int.mul_pos bo.2.2.1 (den_p x)
  have Q7 : Q (lnA (L o) * x.den + lnB (L o) * x.num) := ⟨by have := kk.1; omega, by have := kk.1; omega⟩
  have Q10 : Q (lnC (L o) * x.den) := ⟨by omega, by have := kk.2.1; omega⟩
  have vf := vl_frac (l := L o) bo.2.2.1 x
  have lt1 := low_terms (a := lnA (L o) * x.den + lnB (L o) * x.num) (b := lnC (L o) * x.den) (by omega)
  rw [vf, if_neg (show ¬ lnC (L o) * x.den < 0 by omega), Int.mul_one] at lt1
  have hg : 0 < Int.gcd (lnA (L o) * x.den + lnB (L o) * x.num) (lnC (L o) * x.den) := Int.gcd_pos_of_ne_zero_right _ (by omega)
  have hg2 : Int.gcd (lnA (L o) * x.den + lnB (L o) * x.num) (lnC (L o) * x.den) ≤ (lnC (L o) * x.den).natAbs := Nat.le_of_dvd (by omega) (Int.gcd_dvd_natAbs_right _ _)
  have cm := m_common Q7 Q10 h
  have wo := w o ho
  generalize hv7 : lnA (L o) * x.den + lnB (L o) * x.num = v7 at *
  generalize hv10 : lnC (L o) * x.den = v10 at *
  generalize Int.gcd v7 v10 = gg at *
  have Bg : B64 (gg : Int) := ⟨by omega, by have := Q10.1; have := Q10.2; omega⟩
  have hg0 : ¬ i64 (gg : Int) = 0 := fun z => by
    have := (i64_eq (b := 0) Bg ⟨by decide, by decide⟩).mp z
    omega
  generalize hm : ks.length = m at *
  have K2 := K.2
  rw [hm] at K2
  have f : Fr AK h (sI (sI (sJ (sJ (sJ (sJ h 223 (4 * m) (i64 x.num)) 223 (4 * m + 1) (i64 x.den)) 223 (4 * m + 2) (i64 (vl (L o) x).num)) 223 (4 * m + 3) (i64 (vl (L o) x).den)) 224 m (bz g)) 220 4 (i32 ((m : Int) + 1))) :=
    (((((Fr.J _ (Or.inl rfl)).tr (Fr.J _ (Or.inl rfl))).tr (Fr.J _ (Or.inl rfl))).tr (Fr.J _ (Or.inl rfl))).tr (Fr.I _ (Or.inr (Or.inl rfl)))).tr (Fr.I _ (Or.inr (Or.inr ⟨rfl, rfl⟩)))
  refine ⟨_, ?_, ⟨?_, ?_⟩, f⟩
  · unfold fX7_knot
    have e1 := nat_i o (by omega)
    have em := nat_i m (by omega)
    have x1 : ix (i32 o) 700 := ix_i (by omega) (by omega) (by decide)
    have xm : ix (i32 m) 1600 := ix_i (by omega) (by omega) (by decide)
    have y0 : (i32 (4 * (m : Int))).toNatClampNeg = 4 * m := by rw [i32_nat (by omega) (by omega)]; omega
    have y1 : (i32 (4 * (m : Int) + 1)).toNatClampNeg = 4 * m + 1 := by rw [i32_nat (by omega) (by omega)]; omega
    have y2 : (i32 (4 * (m : Int) + 2)).toNatClampNeg = 4 * m + 2 := by rw [i32_nat (by omega) (by omega)]; omega
    have y3 : (i32 (4 * (m : Int) + 3)).toNatClampNeg = 4 * m + 3 := by rw [i32_nat (by omega) (by omega)]; omega
    have z0 : ix (i32 (4 * (m : Int))) 6400 := ix_i (by omega) (by omega) (by decide)
    have z1 : ix (i32 (4 * (m : Int) + 1)) 6400 := ix_i (by omega) (by omega) (by decide)
    have z2 : ix (i32 (4 * (m : Int) + 2)) 6400 := ix_i (by omega) (by omega) (by decide)
    have z3 : ix (i32 (4 * (m : Int) + 3)) 6400 := ix_i (by omega) (by omega) (by decide)
    have bg := Or.symm (bz_01 g)
    simp only [lt_def, q.k220, q.r22, q.r23, q.r24, q.k237, q.k238, q.k239, q.l237, q.l238, q.l239, if_pos x1, e1, wo.2.2.1, wo.2.2.2.1, wo.2.2.2.2, i64_mul, i64_add, hv7, hv10, cm, bd_some, K2, fou32, i32_mul, kc_sJ, kl_sJ, hR_sJ, hI_sJ, kc_sI, kl_sI, hR_sI, q.r5, q.r6, q.k223, q.k224, q.l223, q.l224, one32, two32, thr32, i32_add, y0, y1, y2, y3, if_pos z0, if_pos z1, if_pos z2, if_pos z3, if_pos hg0, if_pos xm, em, i64_div Q7.b Bg, i64_div Q10.b Bg, ← lt1.1, ← lt1.2, reduceIte]
    rw [if_pos (by rcases bz_01 g with e | e; exact Or.inl e; exact Or.inr e)]
    rw [hI_sI, if_neg (by omega)]
    simp only [hI_sJ, K2, i32_add]
  · intro i k e
    by_cases c1 : i < m
    · rw [List.getElem?_append_left (by omega)] at e
      have u := K.1 i k e
      simp only [hJ_sI, hJ_ss]
      rw [hI_sI, if_neg (by omega), hI_ss, if_neg (by omega)]
      rw [if_neg (by omega), if_neg (by omega), if_neg (by omega), if_neg (by omega), if_neg (by omega), if_neg (by omega), if_neg (by omega), if_neg (by omega), if_neg (by omega), if_neg (by omega), if_neg (by omega), if_neg (by omega), if_neg (by omega), if_neg (by omega), if_neg (by omega), if_neg (by omega)]
      exact u
    · have hi : i < (ks ++ [(x, vl (L o) x, g)]).length := (List.getElem?_eq_some_iff.mp e).1
      rw [List.length_append, hm] at hi
      have him : i = m := by simp at hi; omega
      rw [him, ← hm, List.getElem?_append_right (Nat.le_refl _), Nat.sub_self] at e
      have e' : (x, vl (L o) x, g) = k := by simpa using e
      rw [← e', him]
      simp only [hJ_sI, hJ_ss]
      rw [hI_sI, if_neg (by omega), hI_ss, if_pos rfl]
      refine ⟨?_, ?_, ?_, ?_, rfl⟩
      · simp
      · simp
      · simp
      · simp
  · rw [hI_ss, if_pos rfl, List.length_append, hm]; rfl
end EN
