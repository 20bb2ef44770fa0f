/-! THE REFERENCE'S LINES: lieAt, meet -/
def Lns (h : xH) (L : Nat → Ln) (n : Nat) : Prop := ∀ k, k < n → hI h 235 k = i32 (lnF (L k)) ∧ hI h 236 k = i32 (lnT (L k)) ∧ hJ h 237 k = i64 (lnA (L k)) ∧ hJ h 238 k = i64 (lnB (L k)) ∧ hJ h 239 k = i64 (lnC (L k))
theorem Lns.fr {A : Nat → Nat → Prop} {h h' : xH} {L : Nat → Ln} {n : Nat} (w : Lns h L n) (f : Fr A h h') (hA : ∀ r k, 235 ≤ r → r < 240 → ¬ A r k) : Lns h' L n := by
  intro k hk
  have u := w k hk
  rw [(f.2.2 235 k (hA _ _ (by decide) (by decide))).1, (f.2.2 236 k (hA _ _ (by decide) (by decide))).1, (f.2.2 237 k (hA _ _ (by decide) (by decide))).2, (f.2.2 238 k (hA _ _ (by decide) (by decide))).2, (f.2.2 239 k (hA _ _ (by decide) (by decide))).2]
  exact u
def LBd (MA MB MC : Int) (l : Ln) : Prop := (-MA ≤ lnA l ∧ lnA l ≤ MA) ∧ (-MB ≤ lnB l ∧ lnB l ≤ MB) ∧ 0 < lnC l ∧ lnC l ≤ MC
def Kon (MA MB MC NP NQ : Int) : Prop := MA * NQ + MB * NP ≤ 4611686018427387904 ∧ MC * NQ ≤ 4611686018427387904 ∧ NP ≤ 4611686018427387904 ∧ NQ ≤ 4611686018427387904
theorem mul_b {a b M N : Int} (h1 : -M ≤ a ∧ a ≤ M) (h2 : -N ≤ b ∧ b ≤ N) : -(M * N) ≤ a * b ∧ a * b ≤ M * N := by
  have u1 := Int.mul_nonneg (show 0 ≤ M - a by omega) (show 0 ≤ N + b by omega)
  have u2 := Int.mul_nonneg (show 0 ≤ M + a by omega) (show 0 ≤ N - b by omega)
  have u3 := Int.mul_nonneg (show 0 ≤ M - a by omega) (show 0 ≤ N - b by omega)
  have u4 := Int.mul_nonneg (show 0 ≤ M + a by omega) (show 0 ≤ N + b by omega)
  constructor <;> grind
theorem Pt.dp {NP NQ : Int} {x : Rat} (h : Pt NP NQ x) : -NQ ≤ (x.den : Int) ∧ (x.den : Int) ≤ NQ := ⟨by have := h.2.2; have := den_p x; omega, h.2.2⟩
theorem cast_ne {z : Int} (h : z ≠ 0) : (z : Rat) ≠ 0 := by
  intro e; exact h (by exact_mod_cast e)
theorem vl_frac {l : Ln} (hC : 0 < lnC l) (x : Rat) : ((lnA l * x.den + lnB l * x.num : Int) : Rat) / ((lnC l * x.den : Int) : Rat) = vl l x := by
  have hx := rat_nd x
  have hd := cast_ne (show (x.den : Int) ≠ 0 by have := den_p x; omega)
  have hc := cast_ne (show lnC l ≠ 0 by omega)
  unfold vl ic sl
  rw [Rat.intCast_add, Rat.intCast_mul, Rat.intCast_mul, Rat.intCast_mul]
  generalize ((x.den : Int) : Rat) = d at *
  generalize (x.num : Rat) = p at *
  generalize (lnC l : Rat) = c at *
  rw [← hx]
  grind
theorem m_lieAt {MA MB MC NP NQ : Int} (kk : Kon MA MB MC NP NQ) {h : xH} (q : Mo h) {L : Nat → Ln} {n : Nat} (w : Lns h L n) (hn : n ≤ 700) {l o : Nat} (hl : l < n) (ho : o < n) (bl : LBd MA MB MC (L l)) (bo : LBd MA MB MC (L o)) {x : Rat} (hx : Pt NP NQ x) : ∃ z, fX7_lieAt 220 (i32 l) (i32 o) (i64 x.num) (i64 x.den) h = some (i32 (sg z), h) ∧ (sg z < 0 ↔ vl (L l) x < vl (L o) x) ∧ (0 < sg z ↔ vl (L o) x < vl (L l) x) := by
  have key : ∀ l : Ln, LBd MA MB MC l → Q (lnA l * x.den + lnB l * x.num) ∧ 0 < lnC l * x.den ∧ Q (lnC l * x.den) := by
    intro l b
    have u1 := mul_b b.1 hx.dp
    have u2 := mul_b b.2.1 ⟨hx.1, hx.2.1⟩
    have u3 := mul_b (M := MC) ⟨by have := b.2.2.1; have := b.2.2.2; omega, b.2.2.2⟩ hx.dp
    have u4 := Int.mul_pos b.2.2.1 (den_p x)
    exact ⟨⟨by have := kk.1; omega, by have := kk.1; omega⟩, u4, ⟨by omega, by have := kk.2.1; omega⟩⟩
  have k1 := key _ bl
  have k2 := key _ bo
  refine ⟨(lnA (L l) * x.den + lnB (L l) * x.num) * (lnC (L o) * x.den) - (lnA (L o) * x.den + lnB (L o) * x.num) * (lnC (L l) * x.den), ?_, ?_, ?_⟩
  · unfold fX7_lieAt
    have e1 := nat_i l (by omega)
    have e2 := nat_i o (by omega)
    have x1 : ix (i32 l) 700 := ix_i (by omega) (by omega) (by decide)
    have x2 : ix (i32 o) 700 := ix_i (by omega) (by omega) (by decide)
    have wl := w l hl
    have wo := w o ho
    simp only [q.k220, q.r22, q.r23, q.r24, q.k237, q.k238, q.k239, q.l237, q.l238, q.l239, e1, e2, if_pos x1, if_pos x2, wl.2.2.1, wl.2.2.2.1, wl.2.2.2.2, wo.2.2.1, wo.2.2.2.1, wo.2.2.2.2, i64_mul, i64_add, reduceIte]
    rw [m_lie h k1.1 k1.2.1 k1.2.2 k2.1 k2.2.1 k2.2.2, bd_some]
  · rw [sq_lt k1.2.1 k2.2.1, vl_frac bl.2.2.1, vl_frac bo.2.2.1]
  · rw [sq_gt k1.2.1 k2.2.1, vl_frac bl.2.2.1, vl_frac bo.2.2.1]
def XB (NP NQ : Int) (l o : Ln) : Prop := (-NP ≤ lnA o * lnC l - lnA l * lnC o ∧ lnA o * lnC l - lnA l * lnC o ≤ NP) ∧ -NQ ≤ lnB l * lnC o - lnB o * lnC l ∧ lnB l * lnC o - lnB o * lnC l ≤ NQ
theorem cr_frac {L : Nat → Ln} {l o : Nat} (hl : 0 < lnC (L l)) (ho : 0 < lnC (L o)) (hS : sl (L l) - sl (L o) ≠ 0) : lnB (L l) * lnC (L o) - lnB (L o) * lnC (L l) ≠ 0 ∧ cr L l o = ((lnA (L o) * lnC (L l) - lnA (L l) * lnC (L o) : Int) : Rat) / ((lnB (L l) * lnC (L o) - lnB (L o) * lnC (L l) : Int) : Rat) := by
  have hc := cast_ne (show lnC (L l) ≠ 0 by omega)
  have hd := cast_ne (show lnC (L o) ≠ 0 by omega)
  have e1 : sl (L l) - sl (L o) = ((lnB (L l) * lnC (L o) - lnB (L o) * lnC (L l) : Int) : Rat) / ((lnC (L l) : Rat) * (lnC (L o) : Rat)) := by
    unfold sl
    rw [Rat.intCast_sub, Rat.intCast_mul, Rat.intCast_mul]
    generalize (lnC (L l) : Rat) = c at *
    generalize (lnC (L o) : Rat) = d at *
    grind
  have e2 : ic (L o) - ic (L l) = ((lnA (L o) * lnC (L l) - lnA (L l) * lnC (L o) : Int) : Rat) / ((lnC (L l) : Rat) * (lnC (L o) : Rat)) := by
    unfold ic
    rw [Rat.intCast_sub, Rat.intCast_mul, Rat.intCast_mul]
    generalize (lnC (L l) : Rat) = c at *
    generalize (lnC (L o) : Rat) = d at *
    grind
  have hne : lnB (L l) * lnC (L o) - lnB (L o) * lnC (L l) ≠ 0 := by
    intro e
    apply hS
    rw [e1, e]
    grind
  refine ⟨hne, ?_⟩
  unfold cr
  rw [e1, e2]
  have hv := cast_ne hne
  generalize ((lnB (L l) * lnC (L o) - lnB (L o) * lnC (L l) : Int) : Rat) = u at *
  generalize ((lnA (L o) * lnC (L l) - lnA (L l) * lnC (L o) : Int) : Rat) = v at *
  generalize (lnC (L l) : Rat) = c at *
  generalize (lnC (L o) : Rat) = d at *
  grind
theorem tdiv_b {a M : Int} (d : Int) (h : -M ≤ a ∧ a ≤ M) : -M ≤ a.tdiv d ∧ a.tdiv d ≤ M := by
  have e : (a.tdiv d).natAbs = a.natAbs / d.natAbs := Int.natAbs_tdiv a d
  have u := Nat.div_le_self a.natAbs d.natAbs
  omega
theorem cr_pt {NP NQ : Int} {L : Nat → Ln} {l o : Nat} (hl : 0 < lnC (L l)) (ho : 0 < lnC (L o)) (hS : sl (L l) - sl (L o) ≠ 0) (xb : XB NP NQ (L l) (L o)) : Pt NP NQ (cr L l o) := by
  obtain ⟨hne, e⟩ := cr_frac hl ho hS
  have t := low_terms (a := lnA (L o) * lnC (L l) - lnA (L l) * lnC (L o)) hne
  unfold Pt
  rw [e, t.1, t.2]
  exact ⟨(tdiv_b _ xb.1).1, (tdiv_b _ xb.1).2, (tdiv_b _ xb.2).2⟩
theorem sv_ne {L : Nat → Ln} {l o : Nat} {p1 p2 : Rat} (n1 : ¬ (vl (L o) p1 ≤ vl (L l) p1 ∧ vl (L o) p2 ≤ vl (L l) p2)) (n2 : ¬ (vl (L l) p1 ≤ vl (L o) p1 ∧ vl (L l) p2 ≤ vl (L o) p2)) : sl (L l) - sl (L o) ≠ 0 := by
  intro e
  have u := vd (L l) (L o) p1 p2
  rw [e] at u
  grind
theorem z64 : (0 : Int64) = i64 0 := rfl
theorem o64 : (1 : Int64) = i64 1 := rfl
theorem mo64 : (-1 : Int64) = i64 (-1) := rfl
theorem m_cross {MA MB MC NP NQ : Int} (kk : Kon MA MB MC NP NQ) {h : xH} {acc : List Pie} (q : Nw NP NQ h acc) {L : Nat → Ln} {n : Nat} (w : Lns h L n) (hn : n ≤ 700) {l o : Nat} (hl : l < n) (ho : o < n) (bl : LBd MA MB MC (L l)) (bo : LBd MA MB MC (L o)) {p1 p2 : Rat} (h1 : Pt NP NQ p1) (h2 : Pt NP NQ p2) (xb : XB NP NQ (L l) (L o)) (hS : sl (L l) - sl (L o) ≠ 0) {a b : Nat} (c : Int32) (hc : a = (if 0 ≤ c then o else l) ∧ b = (if 0 ≤ c then l else o)) (hs : (addN (addN acc p1 (cr L l o) a) (cr L l o) p2 b).length ≤ 3200) : ∃ h', fX7_meet_b89 220 (i32 l) (i32 o) (i64 p1.num) (i64 p1.den) (i64 p2.num) (i64 p2.den) c h = some ((), h') ∧ Nw NP NQ h' (addN (addN acc p1 (cr L l o) a) (cr L l o) p2 b) ∧ Fr AN h h' := by
  obtain ⟨hne, ecr⟩ := cr_frac bl.2.2.1 bo.2.2.1 hS
  have pc := cr_pt bl.2.2.1 bo.2.2.1 hS xb
  have t := low_terms (a := lnA (L o) * lnC (L l) - lnA (L l) * lnC (L o)) hne
  rw [← ecr] at t
  have K3 := kk.2.2.1
  have K4 := kk.2.2.2
  have Q8 : Q (lnA (L o) * lnC (L l) - lnA (L l) * lnC (L o)) := ⟨by have := xb.1.1; omega, by have := xb.1.2; omega⟩
  have Q12 : Q (lnB (L l) * lnC (L o) - lnB (L o) * lnC (L l)) := ⟨by have := xb.2.1; omega, by have := xb.2.2; omega⟩
  have hg : 0 < Int.gcd (lnA (L o) * lnC (L l) - lnA (L l) * lnC (L o)) (lnB (L l) * lnC (L o) - lnB (L o) * lnC (L l)) := Int.gcd_pos_of_ne_zero_right _ hne
  have hg2 : Int.gcd (lnA (L o) * lnC (L l) - lnA (L l) * lnC (L o)) (lnB (L l) * lnC (L o) - lnB (L o) * lnC (L l)) ≤ (lnB (L l) * lnC (L o) - lnB (L o) * lnC (L l)).natAbs := Nat.le_of_dvd (by omega) (Int.gcd_dvd_natAbs_right _ _)
  have b168 : ∀ s : Int, s = (if lnB (L l) * lnC (L o) - lnB (L o) * lnC (L l) < 0 then -1 else 1) → ∃ h', fX7_meet_b168 (i64 s) (i64 (Int.gcd (lnA (L o) * lnC (L l) - lnA (L l) * lnC (L o)) (lnB (L l) * lnC (L o) - lnB (L o) * lnC (L l)))) 220 (i32 l) (i32 o) (i64 p1.num) (i64 p1.den) (i64 p2.num) (i64 p2.den) c (i64 (lnA (L o) * lnC (L l) - lnA (L l) * lnC (L o))) (i64 (lnB (L l) * lnC (L o) - lnB (L o) * lnC (L l))) h = some ((), h') ∧ Nw NP NQ h' (addN (addN acc p1 (cr L l o) a) (cr L l o) p2 b) ∧ Fr AN h h' := by
    intro s es
    rw [← es] at t
    generalize lnA (L o) * lnC (L l) - lnA (L l) * lnC (L o) = v8 at *
    generalize lnB (L l) * lnC (L o) - lnB (L o) * lnC (L l) = v12 at *
    generalize Int.gcd v8 v12 = g at *
    have hs1 : s = 1 ∨ s = -1 := by rw [es]; split <;> simp
    have Bg : B64 ((g : Int) * s) := by
      rcases hs1 with e | e <;> rw [e]
      · exact ⟨by omega, by have := Q12.1; have := Q12.2; omega⟩
      · exact ⟨by have := Q12.1; have := Q12.2; omega, by omega⟩
    have hg0 : ¬ i64 ((g : Int) * s) = 0 := fun z => by
      have := (i64_eq (b := 0) Bg ⟨by decide, by decide⟩).mp z
      rcases hs1 with e | e <;> rw [e] at this <;> omega
    have el : (i32 (l : Int)).toInt64 = i64 (l : Int) := i64_of32 ⟨by omega, by omega⟩
    have eo : (i32 (o : Int)).toInt64 = i64 (o : Int) := i64_of32 ⟨by omega, by omega⟩
    unfold fX7_meet_b168 fX7_meet_b205 fX7_meet_b229
    rw [i64_mul, lt_def, if_pos hg0, lt_def, if_pos hg0, lt_def, i64_div Q8.b Bg, i64_div Q12.b Bg, ← t.1, ← t.2, el, eo]
    have hab : a < 700 ∧ b < 700 := by rw [hc.1, hc.2]; split <;> omega
    have hs2 := addN_len (addN acc p1 (cr L l o) a) (cr L l o) p2 b
    obtain ⟨g1, G1, N1, F1⟩ := m_addNew K3 K4 q h1 pc hab.1 (by omega)
    obtain ⟨g2, G2, N2, F2⟩ := m_addNew K3 K4 N1 pc h2 hab.2 hs
    refine ⟨g2, ?_, N2, F1.tr F2⟩
    by_cases c0 : 0 ≤ c
    · simp only [if_pos c0] at hc
      rw [hc.1] at G1
      rw [hc.2] at G2
      simp only [if_pos c0, q.1.k220, reduceIte, G1, bd_some, N1.1.k220, G2]
    · simp only [if_neg c0] at hc
      rw [hc.1] at G1
      rw [hc.2] at G2
      simp only [if_neg c0, q.1.k220, reduceIte, G1, bd_some, N1.1.k220, G2]
  unfold fX7_meet_b89
  have e1 := nat_i l (by omega)
  have e2 := nat_i o (by omega)
  have x1 : ix (i32 l) 700 := ix_i (by omega) (by omega) (by decide)
  have x2 : ix (i32 o) 700 := ix_i (by omega) (by omega) (by decide)
  have wl := w l hl
  have wo := w o ho
  simp only [lt_def, q.1.k220, q.1.r22, q.1.r23, q.1.r24, q.1.k237, q.1.k238, q.1.k239, q.1.l237, q.1.l238, q.1.l239, e1, e2, if_pos x1, if_pos x2, wl.2.2.1, wl.2.2.2.1, wl.2.2.2.2, wo.2.2.1, wo.2.2.2.1, wo.2.2.2.2, i64_mul, i64_sub, reduceIte]
  rw [m_common Q8 Q12, bd_some, mo64, z64, o64]
  by_cases v0 : 0 ≤ lnB (L l) * lnC (L o) - lnB (L o) * lnC (L l)
  · rw [if_pos ((lz_ge Q12.b ⟨by decide, by decide⟩).mpr v0)]
    exact b168 1 (by rw [if_neg (by omega)])
  · rw [if_neg (fun z => v0 ((lz_ge Q12.b ⟨by decide, by decide⟩).mp z))]
    exact b168 (-1) (by rw [if_pos (by omega)])
theorem m_meet {MA MB MC NP NQ : Int} (kk : Kon MA MB MC NP NQ) {h : xH} {acc : List Pie} (q : Nw NP NQ h acc) {L : Nat → Ln} {n : Nat} (w : Lns h L n) (hn : n ≤ 700) {l o : Nat} (hl : l < n) (ho : o < n) (bl : LBd MA MB MC (L l)) (bo : LBd MA MB MC (L o)) {p1 p2 : Rat} (h1 : Pt NP NQ p1) (h2 : Pt NP NQ p2) (xb : p1 < p2 → XB NP NQ (L l) (L o)) (hs : (meetN L l o p1 p2 acc).length ≤ 3200) : ∃ h', fX7_meet 220 (i32 l) (i32 o) (i64 p1.num) (i64 p1.den) (i64 p2.num) (i64 p2.den) h = some ((), h') ∧ Nw NP NQ h' (meetN L l o p1 p2 acc) ∧ Fr AN h h' := by
  have K3 := kk.2.2.1
  have K4 := kk.2.2.2
  unfold fX7_meet
  unfold meetN at hs ⊢
  rw [m_lieR h K3 K4 h1 h2, bd_some]
  by_cases h12 : p2 ≤ p1
  · rw [if_neg (fun z => by have := sr_lt.mp ((si_lt _).mp z); grind)]
    exact ⟨h, rfl, by rw [if_pos h12]; exact q, Fr.rf h⟩
  rw [if_neg h12] at hs ⊢
  obtain ⟨z1, E1, A1, C1⟩ := m_lieAt kk q.1 w hn hl ho bl bo h1
  obtain ⟨z2, E2, A2, C2⟩ := m_lieAt kk q.1 w hn hl ho bl bo h2
  have el : (i32 (l : Int)).toInt64 = i64 (l : Int) := i64_of32 ⟨by omega, by omega⟩
  have eo : (i32 (o : Int)).toInt64 = i64 (o : Int) := i64_of32 ⟨by omega, by omega⟩
  rw [if_pos ((si_lt _).mpr (sr_lt.mpr (by grind))), if_pos q.1.k220, E1, bd_some, E2, bd_some, eo]
  have hx := xb (by grind)
  by_cases c1 : vl (L o) p1 ≤ vl (L l) p1 ∧ vl (L o) p2 ≤ vl (L l) p2
  · rw [if_pos c1] at hs ⊢
    rw [if_neg (fun z => by have := A1.mp ((si_lt _).mp z); grind), if_neg (fun z => by have := A2.mp ((si_lt _).mp z); grind)]
    obtain ⟨g1, G1, N1, F1⟩ := m_addNew K3 K4 q h1 h2 (show o < 700 by omega) hs
    exact ⟨g1, by rw [G1, bd_some], N1, F1⟩
  · rw [if_neg c1] at hs ⊢
    have b63 : ∃ h', fX7_meet_b63 220 (i32 l) (i32 o) (i64 p1.num) (i64 p1.den) (i64 p2.num) (i64 p2.den) (i32 (sg z1)) (i32 (sg z2)) h = some ((), h') ∧ Nw NP NQ h' (if vl (L l) p1 ≤ vl (L o) p1 ∧ vl (L l) p2 ≤ vl (L o) p2 then addN acc p1 p2 l
        else addN (addN acc p1 (cr L l o) (if vl (L l) p1 < vl (L o) p1 then l else o)) (cr L l o) p2 (if vl (L l) p1 < vl (L o) p1 then o else l)) ∧ Fr AN h h' := by
      unfold fX7_meet_b63
      by_cases c2 : vl (L l) p1 ≤ vl (L o) p1 ∧ vl (L l) p2 ≤ vl (L o) p2
      · rw [if_pos c2] at hs ⊢
        rw [if_neg (fun z => by have := C1.mp ((si_gt _).mp z); grind), if_neg (fun z => by have := C2.mp ((si_gt _).mp z); grind), if_pos q.1.k220, el]
        obtain ⟨g1, G1, N1, F1⟩ := m_addNew K3 K4 q h1 h2 (show l < 700 by omega) hs
        exact ⟨g1, by rw [G1, bd_some], N1, F1⟩
      · rw [if_neg c2] at hs ⊢
        have hS := sv_ne c1 c2
        have hd : (0 ≤ i32 (sg z1)) ↔ ¬ vl (L l) p1 < vl (L o) p1 := by
          rw [si_ge, ← A1]; omega
        obtain ⟨g1, G1, N1, F1⟩ := m_cross kk q w hn hl ho bl bo h1 h2 hx hS (i32 (sg z1)) (a := if vl (L l) p1 < vl (L o) p1 then l else o) (b := if vl (L l) p1 < vl (L o) p1 then o else l) (by by_cases e : vl (L l) p1 < vl (L o) p1 <;> simp [hd, e]) hs
        by_cases d1 : 0 < i32 (sg z1)
        · rw [if_pos d1]; exact ⟨g1, G1, N1, F1⟩
        · by_cases d2 : 0 < i32 (sg z2)
          · rw [if_neg d1, if_pos d2]; exact ⟨g1, G1, N1, F1⟩
          · exfalso
            apply c2
            have u1 : ¬ vl (L o) p1 < vl (L l) p1 := fun z => d1 ((si_gt _).mpr (C1.mpr z))
            have u2 : ¬ vl (L o) p2 < vl (L l) p2 := fun z => d2 ((si_gt _).mpr (C2.mpr z))
            grind
    by_cases d1 : i32 (sg z1) < 0
    · rw [if_pos d1]; exact b63
    · by_cases d2 : i32 (sg z2) < 0
      · rw [if_neg d1, if_pos d2]; exact b63
      · exfalso
        apply c1
        have u1 : ¬ vl (L l) p1 < vl (L o) p1 := fun z => d1 ((si_lt _).mpr (A1.mpr z))
        have u2 : ¬ vl (L l) p2 < vl (L o) p2 := fun z => d2 ((si_lt _).mpr (A2.mpr z))
        grind
