/-! BOTH SIDES ASKED: places -/
def eO (ks : List Kn) (j : Nat) : Nat := if kg ks j = true then j + 1 else j
def cvK (ks : List Kn) (k : Nat) (t : Int) : Bool := (List.range k).any (fun j => decide (kx ks j ≤ t ∧ t ≤ kx ks (eO ks j)))
def spB (ks : List Kn) (t : Int) : Bool := (spL ks).any (fun p => decide (p.1 ≤ t ∧ t ≤ p.2.2.1))
section PL
variable {h : xH} {s cap : Nat} {ks : List Kn} {x z : Int}
theorem cvK_iff {k : Nat} {t : Int} : cvK ks k t = true ↔ ∃ j, j < k ∧ kx ks j ≤ t ∧ t ≤ kx ks (eO ks j) := by
  unfold cvK
  rw [List.any_eq_true]
  constructor
  · rintro ⟨j, hj, q⟩; exact ⟨j, List.mem_range.mp hj, by simpa using q⟩
  · rintro ⟨j, hj, q⟩; exact ⟨j, List.mem_range.mpr hj, by simpa using q⟩
theorem sp_cv (F : StF ks) (t : Int) : spB ks t = cvK ks ks.length t := by
  rw [Bool.eq_iff_iff, cvK_iff]
  unfold spB spL
  rw [List.any_eq_true]
  constructor
  · rintro ⟨sp, hsp, q⟩
    obtain ⟨j, hj, ej⟩ := List.mem_filterMap.mp hsp
    have hj := List.mem_range.mp hj
    have q : sp.1 ≤ t ∧ t ≤ sp.2.2.1 := by simpa using q
    unfold spO at ej
    split at ej
    · rename_i gk
      rw [← Option.some.inj ej] at q
      exact ⟨j, hj, q.1, by unfold eO; rw [if_pos gk]; exact q.2⟩
    · rename_i gk
      split at ej
      · rw [← Option.some.inj ej] at q
        exact ⟨j, hj, q.1, by unfold eO; rw [if_neg gk]; exact q.2⟩
      · cases ej
  · rintro ⟨j, hj, q1, q2⟩
    unfold eO at q2
    by_cases gk : kg ks j = true
    · rw [if_pos gk] at q2
      exact ⟨(kx ks j, ky ks j, kx ks (j + 1), ky ks (j + 1)), List.mem_filterMap.mpr ⟨j, List.mem_range.mpr hj, by unfold spO; rw [if_pos gk]⟩, by simpa using ⟨q1, q2⟩⟩
    · rw [if_neg gk] at q2
      by_cases g2 : j = 0 ∨ kg ks (j - 1) = false
      · exact ⟨(kx ks j, ky ks j, kx ks j, ky ks j), List.mem_filterMap.mpr ⟨j, List.mem_range.mpr hj, by unfold spO; rw [if_neg gk, if_pos g2]⟩, by simpa using ⟨q1, q2⟩⟩
      · have g3 : kg ks (j - 1) = true := by
          cases hh : kg ks (j - 1) with
          | true => rfl
          | false => exact absurd (Or.inr hh) g2
        have j0 : j ≠ 0 := fun q => g2 (Or.inl q)
        have ff := F.2 (j - 1) (by omega) g3
        rw [show j - 1 + 1 = j by omega] at ff
        exact ⟨(kx ks (j - 1), ky ks (j - 1), kx ks (j - 1 + 1), ky ks (j - 1 + 1)), List.mem_filterMap.mpr ⟨j - 1, List.mem_range.mpr (by omega), by unfold spO; rw [if_pos g3]⟩, by rw [show j - 1 + 1 = j by omega]; simpa using (show kx ks (j - 1) ≤ t ∧ t ≤ kx ks j by omega)⟩
def PlI (ks : List Kn) (x z : Int) (n : Nat) (k : Nat) (all next : Int) : Prop := all = cn (cvK ks k) n x ∧ (∀ t, x ≤ t → t ≤ z → cvK ks k t = true → t < next) ∧ x ≤ next ∧ next ≤ z + 1 ∧ (next = x ∨ (x ≤ next - 1 ∧ cvK ks k (next - 1) = true ∧ ∀ j, k ≤ j → j < ks.length → next - 1 ≤ kx ks j))
theorem pl_step (F : StF ks) {n k : Nat} {all next : Int} (hk : k < ks.length) (hn : (n : Int) = z - x + 1) (w : PlI ks x z n k all next) : PlI ks x z n (k + 1) (if (if next ≤ kx ks k then kx ks k else next) ≤ (if z ≤ kx ks (eO ks k) then z else kx ks (eO ks k)) then all + ((if z ≤ kx ks (eO ks k) then z else kx ks (eO ks k)) - (if next ≤ kx ks k then kx ks k else next) + 1) else all) (if (if next ≤ kx ks k then kx ks k else next) ≤ (if z ≤ kx ks (eO ks k) then z else kx ks (eO ks k)) then (if z ≤ kx ks (eO ks k) then z else kx ks (eO ks k)) + 1 else next) := by
  obtain ⟨w1, w2, w3, w4, w5⟩ := w
  have hl : ∃ lo, lo = (if next ≤ kx ks k then kx ks k else next) := ⟨_, rfl⟩
  have hh : ∃ hi, hi = (if z ≤ kx ks (eO ks k) then z else kx ks (eO ks k)) := ⟨_, rfl⟩
  obtain ⟨lo, elo⟩ := hl
  obtain ⟨hi, ehi⟩ := hh
  rw [← elo, ← ehi]
  have l1 : next ≤ lo ∧ kx ks k ≤ lo ∧ (lo = next ∨ lo = kx ks k) := by rw [elo]; split <;> omega
  have l2 : hi ≤ z ∧ hi ≤ kx ks (eO ks k) ∧ (hi = z ∨ hi = kx ks (eO ks k)) := by rw [ehi]; split <;> omega
  have up : ∀ t, cvK ks (k + 1) t = true ↔ (cvK ks k t = true ∨ (kx ks k ≤ t ∧ t ≤ kx ks (eO ks k))) := by
    intro t
    rw [cvK_iff, cvK_iff]
    constructor
    · rintro ⟨j, hj, q⟩
      by_cases c : j = k
      · rw [c] at q; exact Or.inr q
      · exact Or.inl ⟨j, by omega, q⟩
    · rintro (⟨j, hj, q⟩ | q)
      · exact ⟨j, by omega, q⟩
      · exact ⟨k, by omega, q⟩
  have ek : ∀ j, k + 1 ≤ j → j < ks.length → kx ks (eO ks k) ≤ kx ks j := by
    intro j j1 j2
    unfold eO
    split
    · exact F.1 (k + 1) j j1 j2
    · exact F.1 k j (by omega) j2
  have same : ∀ t, x ≤ t → t ≤ z → (cvK ks (k + 1) t = true ↔ (cvK ks k t = true ∨ (lo ≤ t ∧ t ≤ hi))) := by
    intro t t1 t2
    rw [up]
    constructor
    · rintro (q | ⟨q1, q2⟩)
      · exact Or.inl q
      · by_cases c : next ≤ t
        · right; omega
        · left
          rcases w5 with q | ⟨q3, q4, q5⟩
          · omega
          · have := q5 k (by omega) hk
            rw [show t = next - 1 by omega]; exact q4
    · rintro (q | ⟨q1, q2⟩)
      · exact Or.inl q
      · exact Or.inr ⟨by omega, by omega⟩
  have cnt : cn (cvK ks (k + 1)) n x = cn (cvK ks k) n x + (if lo ≤ hi then hi - lo + 1 else 0) := by
    have c1 : cn (cvK ks (k + 1)) n x = cn (fun t => cvK ks k t || decide (lo ≤ t ∧ t ≤ hi)) n x := cn_cong n x (fun t t1 t2 => by
      rw [Bool.eq_iff_iff, same t t1 (by omega)]
      simp)
    rw [c1, cn_add (P1 := cvK ks k) (P2 := fun t => decide (lo ≤ t ∧ t ≤ hi)) (fun t => rfl) (fun t q => by
      have q2 : lo ≤ t ∧ t ≤ hi := by simpa using q.2
      have := w2 t (by omega) (by omega) q.1
      omega), cn_int lo hi n x (by omega) (by omega)]
  by_cases c : lo ≤ hi
  · rw [if_pos c, if_pos c]
    rw [if_pos c] at cnt
    refine ⟨by rw [cnt, w1], fun t t1 t2 q => ?_, by omega, by omega, Or.inr ⟨by omega, ?_, fun j j1 j2 => ?_⟩⟩
    · rcases (same t t1 t2).mp q with q | q
      · have := w2 t t1 t2 q; omega
      · omega
    · rw [show hi + 1 - 1 = hi by omega, up]
      exact Or.inr ⟨by omega, by omega⟩
    · have := ek j j1 j2; omega
  · rw [if_neg c, if_neg c]
    rw [if_neg c] at cnt
    refine ⟨by rw [cnt, w1]; omega, fun t t1 t2 q => ?_, w3, w4, ?_⟩
    · rcases (same t t1 t2).mp q with q | q
      · exact w2 t t1 t2 q
      · omega
    · rcases w5 with q | ⟨q3, q4, q5⟩
      · exact Or.inl q
      · exact Or.inr ⟨q3, (up _).mpr (Or.inl q4), fun j j1 j2 => q5 j (by omega) j2⟩
theorem c_pw9 (W : ShK h s cap ks) (O : StO ks) {n : Nat} (hx : -5940 ≤ x) (hz : z ≤ 5940) (hxz : x ≤ z) (hn : (n : Int) = z - x + 1) : ∀ (d k m : Nat) (all next : Int), k + d = ks.length → d < m → PlI ks x z n k all next → fX4_placesWithin_l9 m s (i32 z) (i32 all) (i64 next) (i32 (k : Int)) h = some (i32 (cn (cvK ks ks.length) n x), h) := by
  obtain ⟨h12, P, F⟩ := O
  intro d
  induction d with
  | zero =>
    intro k m all next hk hm w
    obtain ⟨m, rfl⟩ : ∃ k, m = k + 1 := ⟨m - 1, by omega⟩
    have ek : k = ks.length := by omega
    show fX4_placesWithin_b9 _ s _ _ _ _ h = _
    unfold fX4_placesWithin_b9
    rw [if_pos W.1.1, W.2.1.1, if_pos (by rw [ek]; exact Int32.le_refl _), w.1, ek]
  | succ d ih =>
    intro k m all next hk hm w
    obtain ⟨m, rfl⟩ : ∃ k, m = k + 1 := ⟨m - 1, by omega⟩
    have hkl : k < ks.length := by omega
    have st := pl_step F hkl hn w
    have he : eO ks k < ks.length := by
      unfold eO
      split
      · rename_i gk; exact (F.2 k hkl gk).1
      · exact hkl
    have bk := P.b hkl
    have be := P.b he
    obtain ⟨w1, w2, w3, w4, w5⟩ := id w
    have bn : B64 next := ⟨by omega, by omega⟩
    have bz0 : B64 z := ⟨by omega, by omega⟩
    show fX4_placesWithin_b9 _ s _ _ _ _ h = _
    unfold fX4_placesWithin_b9 fX4_placesWithin_b75
    have e1 : fX4_endOfPiece s (i32 (k : Int)) h = some (i32 ((eO ks k : Nat) : Int), h) := c_endOfPiece W F hkl
    rw [if_pos W.1.1, W.2.1.1, if_neg (nle32 hkl (by omega)), if_pos W.c1, if_pos (W.x hkl).1, (W.v hkl).1, c_max64 bn (P.x64 hkl), bd_some, e1, bd_some, if_pos W.c1, if_pos (W.x he).1, (W.v he).1, i64_of32 ⟨by omega, by omega⟩, c_min64 bz0 (P.x64 he), bd_some]
    generalize elo : (if next ≤ kx ks k then kx ks k else next) = lo at *
    generalize ehi : (if z ≤ kx ks (eO ks k) then z else kx ks (eO ks k)) = hi at *
    have b1 : B64 lo := by rw [← elo]; split; exact P.x64 hkl; exact bn
    have b2 : B64 hi := by rw [← ehi]; split; exact bz0; exact P.x64 he
    by_cases c : lo ≤ hi
    · rw [if_pos c, if_pos c] at st
      rw [if_neg (fun q => by have := (lz_gt b1 b2).mp q; omega)]
      simp only [lt_def, o64, i64_sub, i64_add, i32_of64, i32_add, one32, kp1]
      exact ih (k + 1) m _ _ (by omega) (by omega) st
    · rw [if_neg c, if_neg c] at st
      rw [if_pos ((lz_gt b1 b2).mpr (by omega))]
      simp only [lt_def, i32_add, one32, kp1]
      exact ih (k + 1) m _ _ (by omega) (by omega) st
theorem c_places (W : ShK h s cap ks) (O : StO ks) (hx : -5940 ≤ x) (hz : z ≤ 5940) (hxz : x ≤ z) : fX4_placesWithin s (i32 x) (i32 z) h = some (i32 (cn (cvK ks ks.length) (z - x + 1).toNat x), h) := by
  have h12 := O.1
  unfold fX4_placesWithin
  rw [lt_def, lt_def, lt_def, i64_of32 ⟨by omega, by omega⟩]
  refine c_pw9 W O hx hz hxz (n := (z - x + 1).toNat) (by omega) ks.length 0 FU 0 x (by omega) (by rw [FU_eq]; omega) ⟨?_, fun t t1 t2 q => ?_, by omega, by omega, Or.inl rfl⟩
  · exact (cn_none (P := cvK ks 0) _ x (fun t _ _ => rfl)).symm
  · rw [cvK_iff] at q
    obtain ⟨j, hj, _⟩ := q
    omega
/-! the reference -/
theorem m_p59 {sp : List Spn} (hsp : ∀ p ∈ sp, B32 p.1 ∧ B32 p.2.2.1) (hs : sp.length ≤ 12) (q : Mo h) (E : Ens h 0 sp) (c : hI h 220 26 = i32 sp.length) (r47 : Nat → Int32 → Int32 → Int32 → xH → Option (Int32 × xH)) (a3 a4 : Int32) {t : Int} (bt0 : B32 t) : ∀ (d k m : Nat) (so : Bool), k + d = sp.length → d < m → fX7_places_l59 r47 m 220 a3 a4 (i32 t) (bz so) (i32 (k : Int)) h = fX7_places_b116 r47 220 a3 a4 (i32 t) (bz (so || (sp.drop k).any (fun p => decide (p.1 ≤ t ∧ t ≤ p.2.2.1)))) h := by
  intro d
  induction d with
  | zero =>
    intro k m so hk hm
    obtain ⟨m, rfl⟩ : ∃ k, m = k + 1 := ⟨m - 1, by omega⟩
    rw [List.drop_eq_nil_of_le (by omega), List.any_nil, Bool.or_false]
    show fX7_places_b59 _ _ 220 _ _ _ _ _ h = _
    unfold fX7_places_b59
    rw [if_pos q.k220, c, if_pos (by rw [show k = sp.length by omega]; exact Int32.le_refl _)]
  | succ d ih =>
    intro k m so hk hm
    obtain ⟨m, rfl⟩ : ∃ k, m = k + 1 := ⟨m - 1, by omega⟩
    have hkl : k < sp.length := by omega
    have hg : sp[k]? = some sp[k] := List.getElem?_eq_getElem hkl
    have b0 := hsp sp[k] (List.getElem_mem _)
    have v := E k _ hg
    rw [List.drop_eq_getElem_cons hkl, List.any_cons]
    generalize sp[k] = p at *
    have e0 : (i32 (4 * (k : Int))).toNatClampNeg = 0 + 4 * k := by rw [i32_nat (by omega) (by omega)]; omega
    have e2 : (i32 (4 * (k : Int) + 2)).toNatClampNeg = 0 + 4 * k + 2 := by rw [i32_nat (by omega) (by omega)]; omega
    have x0 : ix (i32 (4 * (k : Int))) 96 := ix_i (by omega) (by omega) (by decide)
    have x2 : ix (i32 (4 * (k : Int) + 2)) 96 := ix_i (by omega) (by omega) (by decide)
    show fX7_places_b59 _ _ 220 _ _ _ _ _ h = _
    unfold fX7_places_b59 fX7_places_b107 fX7_places_b108
    rw [if_pos q.k220, c, if_neg (nle32 hkl (by omega))]
    cases so
    · rw [if_pos bz_f]
      simp only [q.r25, q.k240, q.l240, fou32, two32, one32, i32_mul, i32_add, if_pos x0, if_pos x2, e0, e2, v.1, v.2.2.1, reduceIte, lt_def, kp1]
      have i1 := ih (k + 1) m false (by omega) (by omega)
      have i2 := ih (k + 1) m true (by omega) (by omega)
      by_cases c1 : t < p.1
      · rw [if_pos ((i32_lt bt0 b0.1).mpr c1), decide_eq_false (by omega)]
        exact i1
      · rw [if_neg (fun z => c1 ((i32_lt bt0 b0.1).mp z))]
        by_cases c2 : p.2.2.1 < t
        · rw [if_pos ((i32_lt b0.2 bt0).mpr c2), decide_eq_false (by omega)]
          exact i1
        · rw [if_neg (fun z => c2 ((i32_lt b0.2 bt0).mp z)), decide_eq_true (by omega)]
          exact i2
    · rw [if_neg bzt0]
      rfl
theorem m_p47 {sp : List Spn} (hsp : ∀ p ∈ sp, B32 p.1 ∧ B32 p.2.2.1) (hs : sp.length ≤ 12) (q : Mo h) (E : Ens h 0 sp) (c : hI h 220 26 = i32 sp.length) (hz : z ≤ 5940) : ∀ (d : Nat) (t : Int) (m : Nat) (a : Int), -5940 ≤ t → t + d = z + 1 → d < m → fX7_places_l47 m 220 (i32 z) (i32 a) (i32 t) h = some (i32 (a + cn (fun t => sp.any (fun p => decide (p.1 ≤ t ∧ t ≤ p.2.2.1))) d t), h) := by
  intro d
  induction d with
  | zero =>
    intro t m a ht hk hm
    obtain ⟨m, rfl⟩ : ∃ k, m = k + 1 := ⟨m - 1, by omega⟩
    show fX7_places_b47 _ 220 _ _ _ h = _
    unfold fX7_places_b47
    rw [if_pos ((i32_lt ⟨by omega, by omega⟩ ⟨by omega, by omega⟩).mpr (by omega))]
    unfold cn
    rw [Int.add_zero]
  | succ d ih =>
    intro t m a ht hk hm
    obtain ⟨m, rfl⟩ : ∃ k, m = k + 1 := ⟨m - 1, by omega⟩
    show fX7_places_b47 _ 220 _ _ _ h = _
    unfold fX7_places_b47
    rw [if_neg (fun y => by have := (i32_lt (a := z) (b := t) ⟨by omega, by omega⟩ ⟨by omega, by omega⟩).mp y; omega), lt_def, lt_def]
    have i0 := m_p59 hsp hs q E c (fX7_places_l47 m) (i32 z) (i32 a) (t := t) ⟨by omega, by omega⟩ sp.length 0 FU false (by omega) (by rw [FU_eq]; omega)
    have i1 : fX7_places_l59 (fX7_places_l47 m) FU 220 (i32 z) (i32 a) (i32 t) 0 0 h = _ := i0
    rw [i1, List.drop_zero, Bool.false_or]
    unfold cn fX7_places_b116 fX7_places_b128
    cases sp.any (fun p => decide (p.1 ≤ t ∧ t ≤ p.2.2.1))
    · rw [if_pos bz_f, if_neg (by decide)]
      simp only [lt_def, z32, one32, i32_add, Int.add_zero]
      rw [ih (t + 1) m a (by omega) (by omega) (by omega), Int.zero_add]
    · rw [if_neg bzt0, if_pos rfl]
      simp only [lt_def, one32, i32_add]
      rw [ih (t + 1) m (a + 1) (by omega) (by omega) (by omega), Int.add_assoc]
theorem Q_places {cur : Nat → List Kn} (C : CurOk cur) (a b c : Int32) : Ag cur (fX6_places 2 a b c) (fX7_places 220 a b c) := by
  obtain ⟨i, bi, rfl⟩ := i32_ex a
  obtain ⟨x, bx, rfl⟩ := i32_ex b
  obtain ⟨z, bz1, rfl⟩ := i32_ex c
  intro h h' I J
  have Bx : B64 x := ⟨by have := bx.1; omega, by have := bx.2; omega⟩
  have Bz : B64 z := ⟨by have := bz1.1; omega, by have := bz1.2; omega⟩
  unfold fX6_places fX7_places
  simp only [if_pos J.1.k220, lt_def, c_isStore bi, m_isStore bi, bd_some, bzd, i64_of32 bx, i64_of32 bz1, c_isPlace Bx, m_isPlace Bx, c_isPlace Bz, m_isPlace Bz, i32_le bx bz1]
  by_cases h1 : 0 ≤ i ∧ i ≤ 5
  · by_cases h2 : -5940 ≤ x ∧ x ≤ 5940
    · by_cases h3 : -5940 ≤ z ∧ z ≤ 5940
      · by_cases h4 : x ≤ z
        · simp only [if_pos h1, if_pos h2, if_pos h3, if_pos h4]
          obtain ⟨n, rfl⟩ : ∃ n : Nat, i = n := ⟨i.toNat, by omega⟩
          have hn : n < 6 := by omega
          obtain ⟨O, -⟩ := C.1 n hn
          obtain ⟨h12, P, F⟩ := id O
          obtain ⟨cap, W⟩ := I.2 n (by omega)
          have co := I.1
          have sl := I.s (show n < 7 by omega)
          have f0 := thr0 h'
          obtain ⟨g3, E3, S3, C3, F3⟩ := m_laySpans (a := 0) (Or.inl rfl) hn h12 F (f0.mo J.1) ((J.2.1 n hn).fr f0 MSc_222)
          have E3' : fX7_laySpans 220 (i32 (n : Int)) 0 (sI h' 220 0 0) = some ((), g3) := E3
          have l1 := sp_len (cur n)
          have E4 := m_p47 (z := z) (fun p hp => by have := sp_b32 P F p hp; exact ⟨⟨by omega, by omega⟩, ⟨by omega, by omega⟩⟩) (by omega) (F3.mo (f0.mo J.1)) S3 C3 (by omega) (z - x + 1).toNat x FU 0 (by omega) (by omega) (by rw [FU_eq]; omega)
          have E4' : fX7_places_l47 FU 220 (i32 z) 0 (i32 x) g3 = some (i32 (0 + cn (fun t => (spL (cur n)).any (fun p => decide (p.1 ≤ t ∧ t ≤ p.2.2.1))) (z - x + 1).toNat x), g3) := E4
          refine ⟨i32 (cn (cvK (cur n) (cur n).length) (z - x + 1).toNat x), h, g3, ?_, Fr.rf h, ?_, f0.tr (F3.mono (fun r' k' y => AQ_ms (Or.inl y)))⟩
          · rw [if_pos co.k2, co.r2_0, if_pos co.k3, if_pos sl.1, sl.2, if_pos W.1.1, c_places W O h2.1 h3.2 h4, bd_some]
          · rw [E3', bd_some, E4', Int.zero_add]
            have : cn (fun t => (spL (cur n)).any (fun p => decide (p.1 ≤ t ∧ t ≤ p.2.2.1))) (z - x + 1).toNat x = cn (cvK (cur n) (cur n).length) (z - x + 1).toNat x := cn_cong _ _ (fun t _ _ => sp_cv F t)
            rw [this]
        · simp only [if_pos h1, if_pos h2, if_pos h3, if_neg h4]
          exact ⟨_, h, _, rfl, Fr.rf h, rfl, thr0 h'⟩
      · simp only [if_pos h1, if_pos h2, if_neg h3]
        exact ⟨_, h, _, rfl, Fr.rf h, rfl, thr0 h'⟩
    · simp only [if_pos h1, if_neg h2]
      exact ⟨_, h, _, rfl, Fr.rf h, rfl, thr0 h'⟩
  · simp only [if_neg h1]
    exact ⟨_, h, _, rfl, Fr.rf h, rfl, thr0 h'⟩
end PL
