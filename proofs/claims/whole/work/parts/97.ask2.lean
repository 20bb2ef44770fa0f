/-! BOTH SIDES ASKED: of -/
section AS
variable {h : xH} {cur : Nat → List Kn} {ks : List Kn}
theorem fo_add {σ : Type} (st : Nat → σ → σ) : ∀ (d e k : Nat) (a : σ), fo st (d + e) k a = fo st e (k + d) (fo st d k a) := by
  intro d
  induction d with
  | zero => intro e k a; rw [Nat.zero_add]; rfl
  | succ d ih =>
    intro e k a
    rw [show d + 1 + e = (d + e) + 1 by omega]
    show fo st (d + e) (k + 1) (st k a) = fo st e (k + (d + 1)) (fo st d (k + 1) (st k a))
    rw [ih, show k + 1 + d = k + (d + 1) by omega]
theorem pt_b (ks : List Kn) : ∀ (d k : Nat) (a : Int), a ≤ fo (sParts ks) d k a ∧ fo (sParts ks) d k a ≤ a + d := by
  intro d
  induction d with
  | zero => intro k a; unfold fo; omega
  | succ d ih =>
    intro k a
    unfold fo
    have := ih (k + 1) (sParts ks k a)
    have : sParts ks k a = a ∨ sParts ks k a = a + 1 := by unfold sParts; split <;> omega
    omega
theorem pt_one {j d k : Nat} {a : Int} (h1 : k ≤ j) (h2 : j < k + d) (g : kg ks j = false) : a + 1 ≤ fo (sParts ks) d k a := by
  obtain ⟨e, rfl⟩ : ∃ e, d = (j - k) + (e + 1) := ⟨d - (j - k) - 1, by omega⟩
  rw [fo_add, show k + (j - k) = j by omega]
  have p1 := pt_b ks (j - k) k a
  have e1 : sParts ks j (fo (sParts ks) (j - k) k a) = fo (sParts ks) (j - k) k a + 1 := by unfold sParts; rw [if_neg (by rw [g]; decide)]
  show a + 1 ≤ fo (sParts ks) e (j + 1) (sParts ks j (fo (sParts ks) (j - k) k a))
  rw [e1]
  have := pt_b ks e (j + 1) (fo (sParts ks) (j - k) k a + 1)
  omega
theorem nParts_b (ks : List Kn) : 0 ≤ nParts ks ∧ nParts ks ≤ ks.length := by
  have := pt_b ks ks.length 0 0
  unfold nParts
  omega
theorem one_part (F : StF ks) (h1 : nParts ks = 1) {k : Nat} (hk : k + 1 < ks.length) : kg ks k = true := by
  cases g : kg ks k with
  | true => rfl
  | false =>
    exfalso
    have gl : kg ks (ks.length - 1) = false := by
      cases g2 : kg ks (ks.length - 1) with
      | false => rfl
      | true => have := (F.2 (ks.length - 1) (by omega) g2).1; omega
    unfold nParts at h1
    rw [show ks.length = (k + 1) + (ks.length - (k + 1)) by omega, fo_add] at h1
    have p1 := pt_one (ks := ks) (j := k) (d := k + 1) (k := 0) (a := 0) (by omega) (by omega) g
    have p2 := pt_one (ks := ks) (j := ks.length - 1) (d := ks.length - (k + 1)) (k := 0 + (k + 1)) (a := fo (sParts ks) (k + 1) 0 0) (by omega) (by omega) gl
    omega
theorem falls_eq (C : Can ks) (h1 : nParts ks = 1) : nFalls ks false = nFalls ks true := by
  have key : ∀ (d k : Nat) (a : Int × Option Nat), k + d = ks.length → ((a.2 = none ∧ k = 0) ∨ (a.2 = some (k - 1) ∧ 0 < k) ∨ k = ks.length) → fo (sFalls ks false) d k a = fo (sFalls ks true) d k a := by
    intro d
    induction d with
    | zero => intro k a _ _; rfl
    | succ d ih =>
      intro k a hk hs
      unfold fo
      have es : sFalls ks false k a = sFalls ks true k a := by
        unfold sFalls
        cases g : kg ks k with
        | false => rfl
        | true =>
          rw [if_pos rfl, if_pos rfl]
          rcases hs with hs | hs | hs
          · rw [hs.1]
          · rw [hs.1]
            have g1 := one_part C.1.2.2 h1 (k := k - 1) (by omega)
            have ns := can_ns C (i := k - 1) (by omega) g1 (by rw [show k - 1 + 1 = k by omega]; exact g)
            rw [show k - 1 + 1 = k by omega] at ns
            have : (krise ks k * krun ks (k - 1) < krise ks (k - 1) * krun ks k ∨ (false = false ∧ krise ks k * krun ks (k - 1) = krise ks (k - 1) * krun ks k)) ↔ (krise ks k * krun ks (k - 1) < krise ks (k - 1) * krun ks k ∨ (true = false ∧ krise ks k * krun ks (k - 1) = krise ks (k - 1) * krun ks k)) := by
              constructor
              · rintro (z | z)
                · exact Or.inl z
                · exact absurd z.2.symm ns
              · rintro (z | z)
                · exact Or.inl z
                · cases z.1
            have e2 : (if (krise ks k * krun ks (k - 1) < krise ks (k - 1) * krun ks k ∨ (false = false ∧ krise ks k * krun ks (k - 1) = krise ks (k - 1) * krun ks k)) then a.1 + 1 else a.1) = (if (krise ks k * krun ks (k - 1) < krise ks (k - 1) * krun ks k ∨ (true = false ∧ krise ks k * krun ks (k - 1) = krise ks (k - 1) * krun ks k)) then a.1 + 1 else a.1) := by
              by_cases z : (krise ks k * krun ks (k - 1) < krise ks (k - 1) * krun ks k ∨ (false = false ∧ krise ks k * krun ks (k - 1) = krise ks (k - 1) * krun ks k))
              · rw [if_pos z, if_pos (this.mp z)]
              · rw [if_neg z, if_neg (fun y => z (this.mpr y))]
            exact congrArg (fun t => (t, some k)) e2
          · omega
      rw [es]
      refine ih (k + 1) _ (by omega) ?_
      by_cases hl : k + 1 = ks.length
      · exact Or.inr (Or.inr hl)
      · have g1 := one_part C.1.2.2 h1 (k := k) (by omega)
        right; left
        refine ⟨?_, by omega⟩
        unfold sFalls
        rw [if_pos g1]; rfl
  unfold nFalls
  rw [key ks.length 0 (0, none) (by omega) (Or.inl ⟨rfl, rfl⟩)]
theorem canT_or : canT ks = (al (pWay ks true) (ks.length - 1) 1 || al (pWay ks false) (ks.length - 1) 1) := by unfold canT pWay; rfl
theorem Q_of (C : CurOk cur) (a b : Int32) : Ag cur (fX6_of 2 a b) (fX7_of 220 a b) := by
  obtain ⟨i, bi, rfl⟩ := i32_ex a
  obtain ⟨w, bw, rfl⟩ := i32_ex b
  intro h h' I J
  unfold fX6_of fX7_of
  simp only [if_pos J.1.k220, lt_def, c_isStore bi, m_isStore bi, bd_some, bzd]
  by_cases h1 : 0 ≤ i ∧ i ≤ 5
  · simp only [if_pos h1]
    obtain ⟨n, rfl⟩ : ∃ n : Nat, i = n := ⟨i.toNat, by omega⟩
    have hn : n < 6 := by omega
    have cn := C.1 n hn
    obtain ⟨O, -⟩ := id cn
    obtain ⟨h12, P, F⟩ := O
    obtain ⟨cap, W⟩ := I.2 n (by omega)
    have co := I.1
    have sl := I.s (show n < 7 by omega)
    have f0 := thr0 h'
    have q := f0.mo J.1
    have R := (J.2.1 n hn).fr f0 MSc_222
    have pb := nParts_b (cur n)
    have e0 : (i32 w = (0 : Int32)) ↔ w = 0 := i32_eq bw (b := 0) ⟨by decide, by decide⟩
    have e1 : (i32 w = (1 : Int32)) ↔ w = 1 := i32_eq bw (b := 1) ⟨by decide, by decide⟩
    have e2 : (i32 w = (2 : Int32)) ↔ w = 2 := i32_eq bw (b := 2) ⟨by decide, by decide⟩
    have e3 : (i32 w = (3 : Int32)) ↔ w = 3 := i32_eq bw (b := 3) ⟨by decide, by decide⟩
    have e4 : (i32 w = (4 : Int32)) ↔ w = 4 := i32_eq bw (b := 4) ⟨by decide, by decide⟩
    have e5 : (i32 w = (5 : Int32)) ↔ w = 5 := i32_eq bw (b := 5) ⟨by decide, by decide⟩
    have e6 : (i32 w = (6 : Int32)) ↔ w = 6 := i32_eq bw (b := 6) ⟨by decide, by decide⟩
    have e7 : (i32 w = (7 : Int32)) ↔ w = 7 := i32_eq bw (b := 7) ⟨by decide, by decide⟩
    have e8 : (i32 w = (8 : Int32)) ↔ w = 8 := i32_eq bw (b := 8) ⟨by decide, by decide⟩
    have e9 : (i32 w = (9 : Int32)) ↔ w = 9 := i32_eq bw (b := 9) ⟨by decide, by decide⟩
    have len0 : (i32 ((cur n).length : Int) = (0 : Int32)) ↔ (cur n).length = 0 := by
      rw [show (0 : Int32) = i32 0 from rfl, i32_eq ⟨by omega, by omega⟩ ⟨by decide, by decide⟩]; omega
    unfold fX7_of_b23 fX7_of_b35 fX7_of_b184
    simp only [if_pos co.k2, co.r2_0, if_pos co.k3, if_pos sl.1, sl.2, if_pos W.1.1, W.2.1.1, e0, e1, e2, e3, e4, e5, e6, e7, e8, e9, if_pos q.k220, m_many q hn R, bd_some]
    rcases (show w = 0 ∨ w = 1 ∨ w = 2 ∨ w = 3 ∨ w = 4 ∨ w = 5 ∨ w = 6 ∨ w = 7 ∨ w = 8 ∨ w = 9 ∨ (w < 0 ∨ 9 < w) by omega) with e | e | e | e | e | e | e | e | e | e | e
    · simp only [e, Int.reduceEq, reduceIte]
      exact ⟨_, h, _, rfl, Fr.rf h, rfl, f0⟩
    · simp only [e, Int.reduceEq, reduceIte, c_parts W, m_linesIn q hn h12 R, bd_some, i32_sub]
      exact ⟨_, h, _, rfl, Fr.rf h, by rw [show ((cur n).length : Int) - (((cur n).length : Int) - nParts (cur n)) = nParts (cur n) by omega], f0⟩
    · simp only [e, Int.reduceEq, reduceIte, c_parts W, m_linesIn q hn h12 R, bd_some, i32_sub]
      exact ⟨_, h, _, rfl, Fr.rf h, rfl, f0⟩
    · simp only [e, Int.reduceEq, reduceIte, c_jumps W P, m_jumps q hn h12 R P, bd_some]
      exact ⟨_, h, _, rfl, Fr.rf h, rfl, f0⟩
    · simp only [e, Int.reduceEq, reduceIte, c_parts W, m_linesIn q hn h12 R, bd_some, i32_sub, show ((cur n).length : Int) - (((cur n).length : Int) - nParts (cur n)) = nParts (cur n) by omega, c_slopeFalls W P F, show fX7_falls 220 (i32 (n : Int)) 0 (sI h' 220 0 0) = some (i32 (nFalls (cur n) false), sI h' 220 0 0) from m_falls q hn h12 R P F false]
      by_cases c : nParts (cur n) = 1
      · have cp : i32 (nParts (cur n)) = 1 := by rw [c]; rfl
        rw [if_pos cp, if_pos cp, falls_eq cn c]
        by_cases c2 : i32 (nFalls (cur n) true) = 0
        · rw [if_pos c2, if_pos c2]; exact ⟨_, h, _, rfl, Fr.rf h, rfl, f0⟩
        · rw [if_neg c2, if_neg c2]; exact ⟨_, h, _, rfl, Fr.rf h, rfl, f0⟩
      · have c' : ¬ i32 (nParts (cur n)) = 1 := fun z => c ((i32_eq (b := 1) ⟨by omega, by omega⟩ ⟨by decide, by decide⟩).mp z)
        rw [if_neg c', if_neg c']
        exact ⟨_, h, _, rfl, Fr.rf h, rfl, f0⟩
    · simp only [e, Int.reduceEq, reduceIte, len0]
      by_cases c : (cur n).length = 0
      · rw [if_pos c, if_pos c]; exact ⟨_, h, _, rfl, Fr.rf h, rfl, f0⟩
      · rw [if_neg c, if_neg c, show fX4_xAt (hR h 3 n) 0 h = some (i32 (kx (cur n) 0), h) from c_xAt W (k := 0) (by omega), show fX7_xOf 220 (i32 (n : Int)) 0 (sI h' 220 0 0) = some (i32 (kx (cur n) 0), sI h' 220 0 0) from m_xOf q hn h12 R (k := 0) (by omega), bd_some, bd_some]
        exact ⟨_, h, _, rfl, Fr.rf h, rfl, f0⟩
    · simp only [e, Int.reduceEq, reduceIte, len0]
      by_cases c : (cur n).length = 0
      · rw [if_pos c, if_pos c]; exact ⟨_, h, _, rfl, Fr.rf h, rfl, f0⟩
      · rw [if_neg c, if_neg c, one32, i32_sub, km1 (show 0 < (cur n).length by omega), c_xAt W (show (cur n).length - 1 < (cur n).length by omega), m_xOf q hn h12 R (show (cur n).length - 1 < (cur n).length by omega), bd_some, bd_some]
        exact ⟨_, h, _, rfl, Fr.rf h, rfl, f0⟩
    · simp only [e, Int.reduceEq, reduceIte, c_width W F, m_wide q hn h12 R F, bd_some]
      exact ⟨_, h, _, rfl, Fr.rf h, rfl, f0⟩
    · have s1 : fX7_isStrict 220 (i32 (n : Int)) 1 (sI h' 220 0 0) = some (bz (al (pWay (cur n) true) ((cur n).length - 1) 1), sI h' 220 0 0) := m_isStrict q hn h12 R P true
      have s2 : fX7_isStrict 220 (i32 (n : Int)) (-1) (sI h' 220 0 0) = some (bz (al (pWay (cur n) false) ((cur n).length - 1) 1), sI h' 220 0 0) := m_isStrict q hn h12 R P false
      simp only [e, Int.reduceEq, reduceIte, c_canBeTurned W P, bd_some, s1, s2, canT_or, bz_eq0]
      cases al (pWay (cur n) true) ((cur n).length - 1) 1 <;> cases al (pWay (cur n) false) ((cur n).length - 1) 1 <;> exact ⟨_, h, _, rfl, Fr.rf h, rfl, f0⟩
    · simp only [e, Int.reduceEq, reduceIte, c_slopeFalls W P F, bd_some, show fX7_falls 220 (i32 (n : Int)) 1 (sI h' 220 0 0) = some (i32 (nFalls (cur n) true), sI h' 220 0 0) from m_falls q hn h12 R P F true]
      exact ⟨_, h, _, rfl, Fr.rf h, rfl, f0⟩
    · rw [if_neg (by omega), if_neg (by omega), if_neg (by omega), if_neg (by omega), if_neg (by omega), if_neg (by omega), if_neg (by omega), if_neg (by omega), if_neg (by omega), if_neg (by omega), if_neg (by omega), if_neg (by omega), if_neg (by omega), if_neg (by omega), if_neg (by omega), if_neg (by omega), if_neg (by omega), if_neg (by omega), if_neg (by omega), if_neg (by omega), if_neg (by omega), if_neg (by omega)]
      exact ⟨_, h, _, rfl, Fr.rf h, rfl, f0⟩
  · simp only [if_neg h1]
    exact ⟨_, h, _, rfl, Fr.rf h, rfl, thr0 h'⟩
end AS
