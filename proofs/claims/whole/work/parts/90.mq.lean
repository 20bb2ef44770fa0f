/-! THE REFERENCE'S STORES ASKED -/
section MQ
variable {h : xH} {i : Nat} {ks : List Kn}
def sLinesIn (ks : List Kn) (k : Nat) (a : Int) : Int := if kg ks k = true then a + 1 else a
theorem ln_parts (ks : List Kn) : ∀ (d k : Nat) (a b : Int), fo (sLinesIn ks) d k a + fo (sParts ks) d k b = a + b + d := by
  intro d
  induction d with
  | zero => intro k a b; unfold fo; omega
  | succ d ih =>
    intro k a b
    unfold fo
    rw [ih]
    unfold sLinesIn sParts
    split <;> omega
theorem m_linesIn (q : Mo h) (hi : i < 6) (h12 : ks.length ≤ 12) (R : Rwi h i ks) : fX7_linesIn 220 (i32 i) h = some (i32 ((ks.length : Int) - nParts ks), h) := by
  have e : (ks.length : Int) - nParts ks = fo (sLinesIn ks) ks.length 0 0 := by
    have := ln_parts ks ks.length 0 0 0
    unfold nParts
    omega
  rw [e]
  unfold fX7_linesIn
  rw [lt_def, lt_def]
  refine (fo_loop (G := fun m (a : Int) k => fX7_linesIn_l4 m 220 (i32 i) (i32 a) (i32 (k : Nat)) h) (st := sLinesIn ks) (out := fun a => some (i32 a, h)) (I := fun _ _ => True) (N := ks.length) ?_ ?_ ks.length 0 FU 0 (by omega) (by rw [FU_eq]; omega) trivial).1
  · intro m a _
    show fX7_linesIn_b4 _ 220 _ _ (i32 ks.length) h = _
    unfold fX7_linesIn_b4
    rw [if_pos q.k220, m_many q hi R, bd_some, if_pos (Int32.le_refl _)]
  · intro m a k hk _
    refine ⟨trivial, ?_⟩
    show fX7_linesIn_b4 _ 220 _ (i32 a) (i32 (k : Int)) h = fX7_linesIn_l4 _ _ _ _ _ _
    unfold fX7_linesIn_b4 fX7_linesIn_b28 sLinesIn
    rw [if_pos q.k220, m_many q hi R, bd_some, if_neg (nle32 hk (by omega)), m_goes q hi h12 R hk, bd_some]
    cases g : kg ks k
    · rw [if_pos bz_f, if_neg (by decide)]; simp only [lt_def, one32, z32, i32_add, kp1, Int.add_zero]
    · rw [if_neg bzt0, if_pos rfl]; simp only [lt_def, one32, i32_add, kp1]
theorem m_jumps (q : Mo h) (hi : i < 6) (h12 : ks.length ≤ 12) (R : Rwi h i ks) (P : StP ks) : fX7_jumps 220 (i32 i) h = some (i32 (nJumps ks), h) := by
  unfold fX7_jumps
  rw [lt_def, lt_def]
  by_cases h0 : ks.length = 0
  · have e : nJumps ks = 0 := by unfold nJumps; rw [h0]; rfl
    rw [e]
    show fX7_jumps_b4 _ 220 _ _ _ h = _
    unfold fX7_jumps_b4
    rw [if_pos q.k220, m_many q hi R, bd_some, h0, if_pos (by decide)]; rfl
  refine (fo_loop (G := fun m (a : Int) k => fX7_jumps_l4 m 220 (i32 i) (i32 a) (i32 (k : Nat)) h) (st := sJumps ks) (out := fun a => some (i32 a, h)) (I := fun k _ => 0 < k) (N := ks.length) ?_ ?_ (ks.length - 1) 1 FU 0 (by omega) (by rw [FU_eq]; omega) (by decide)).1
  · intro m a _
    show fX7_jumps_b4 _ 220 _ _ (i32 ks.length) h = _
    unfold fX7_jumps_b4
    rw [if_pos q.k220, m_many q hi R, bd_some, if_pos (Int32.le_refl _)]
  · intro m a k hk hk0
    refine ⟨by omega, ?_⟩
    have hk1 : k - 1 < ks.length := by omega
    show fX7_jumps_b4 _ 220 _ (i32 a) (i32 (k : Int)) h = fX7_jumps_l4 _ _ _ _ _ _
    unfold fX7_jumps_b4 fX7_jumps_b46 fX7_jumps_b47 sJumps
    simp only [one32, i32_sub, km1 hk0]
    rw [if_pos q.k220, m_many q hi R, bd_some, if_neg (nle32 hk (by omega)), m_goes q hi h12 R hk1, bd_some]
    cases g : kg ks (k - 1)
    · rw [if_pos bz_f, m_xOf q hi h12 R hk, bd_some, m_xOf q hi h12 R hk1, bd_some]
      by_cases c : kx ks k = kx ks (k - 1)
      · rw [if_pos (by rw [c]), if_pos ⟨rfl, c⟩]; simp only [lt_def, i32_add, kp1]
      · rw [if_neg (fun z => c ((i32_eq (P.x32 hk) (P.x32 hk1)).mp z)), if_neg (fun z => c z.2)]; simp only [lt_def, z32, i32_add, kp1, Int.add_zero]
    · rw [if_neg bzt0, if_neg (fun z => by cases z.1)]; simp only [lt_def, z32, i32_add, kp1, Int.add_zero]
theorem m_wide (q : Mo h) (hi : i < 6) (h12 : ks.length ≤ 12) (R : Rwi h i ks) (F : StF ks) : fX7_wide 220 (i32 i) h = some (i32 (nWidth ks), h) := by
  unfold fX7_wide
  rw [lt_def, lt_def]
  refine (fo_loop (G := fun m (a : Int) k => fX7_wide_l4 m 220 (i32 i) (i32 a) (i32 (k : Nat)) h) (st := sWidth ks) (out := fun a => some (i32 a, h)) (I := fun _ _ => True) (N := ks.length) ?_ ?_ ks.length 0 FU 0 (by omega) (by rw [FU_eq]; omega) trivial).1
  · intro m a _
    show fX7_wide_b4 _ 220 _ _ (i32 ks.length) h = _
    unfold fX7_wide_b4
    rw [if_pos q.k220, m_many q hi R, bd_some, if_pos (Int32.le_refl _)]
  · intro m a k hk _
    refine ⟨trivial, ?_⟩
    show fX7_wide_b4 _ 220 _ (i32 a) (i32 (k : Int)) h = fX7_wide_l4 _ _ _ _ _ _
    unfold fX7_wide_b4 fX7_wide_b42 sWidth krun
    rw [if_pos q.k220, m_many q hi R, bd_some, if_neg (nle32 hk (by omega)), m_goes q hi h12 R hk, bd_some]
    cases g : kg ks k
    · rw [if_pos bz_f, if_neg (by decide)]; simp only [lt_def, one32, z32, i32_add, kp1, Int.add_zero]
    · have f := F.2 k hk g
      rw [if_neg bzt0, if_pos rfl, one32, i32_add, kp1, m_xOf q hi h12 R f.1, bd_some, m_xOf q hi h12 R hk, bd_some, i32_sub]; simp only [lt_def, i32_add, kp1]
theorem m_falls (q : Mo h) (hi : i < 6) (h12 : ks.length ≤ 12) (R : Rwi h i ks) (P : StP ks) (F : StF ks) (b : Bool) : fX7_falls 220 (i32 i) (bz b) h = some (i32 (nFalls ks b), h) := by
  unfold fX7_falls
  rw [lt_def, lt_def, lt_def]
  refine (fo_loop (G := fun m (a : Int × Option Nat) k => fX7_falls_l8 m 220 (i32 i) (bz b) (i32 a.1) (i32 (iO a.2)) (i32 (k : Nat)) h) (st := sFalls ks b) (out := fun a => some (i32 a.1, h)) (I := FoI ks) (N := ks.length) ?_ ?_ ks.length 0 FU (0, none) (by omega) (by rw [FU_eq]; omega) (fun l e => by cases e)).1
  · intro m a _
    show fX7_falls_b8 _ 220 _ _ _ _ (i32 ks.length) h = _
    unfold fX7_falls_b8
    rw [if_pos q.k220, m_many q hi R, bd_some, if_pos (Int32.le_refl _)]
  · intro m a k hk w
    refine ⟨w.st hk, ?_⟩
    show fX7_falls_b8 _ 220 _ _ (i32 a.1) (i32 (iO a.2)) (i32 (k : Int)) h = fX7_falls_l8 _ _ _ _ _ _ _ _
    unfold fX7_falls_b8 fX7_falls_b160 fX7_falls_b162 fX7_falls_b166 sFalls
    rw [if_pos q.k220, m_many q hi R, bd_some, if_neg (nle32 hk (by omega)), m_goes q hi h12 R hk, bd_some]
    cases g : kg ks k
    · rw [if_pos bz_f, if_neg (by decide)]; simp only [lt_def, one32, i32_add, kp1]
    · rw [if_neg bzt0, if_pos rfl]
      obtain ⟨a1, a2⟩ := a
      cases a2 with
      | none => rw [if_pos (by show i32 (-1) = -1; rfl)]; simp only [lt_def, one32, i32_add, kp1, iO]
      | some l =>
        obtain ⟨hl1, hl, gl⟩ := w l rfl
        have f1 := F.2 k hk g
        have f2 := F.2 l hl gl
        have e2 : i32 (iO (some l)) = i32 (l : Int) := rfl
        have b1 := P.b hk
        have b2 := P.b f1.1
        have b3 := P.b hl
        have b4 := P.b f2.1
        have t1 : (i32 (kx ks (l + 1) - kx ks l)).toInt64 = i64 (kx ks (l + 1) - kx ks l) := i64_of32 ⟨by omega, by omega⟩
        have t2 : (i32 (ky ks (l + 1) - ky ks l)).toInt64 = i64 (ky ks (l + 1) - ky ks l) := i64_of32 ⟨by omega, by omega⟩
        have t3 : (i32 (kx ks (k + 1) - kx ks k)).toInt64 = i64 (kx ks (k + 1) - kx ks k) := i64_of32 ⟨by omega, by omega⟩
        have t4 : (i32 (ky ks (k + 1) - ky ks k)).toInt64 = i64 (ky ks (k + 1) - ky ks k) := i64_of32 ⟨by omega, by omega⟩
        have r1 := krr P F hk hl
        have r2 := krr P F hl hk
        have u1 : krise ks k = ky ks (k + 1) - ky ks k := by unfold krise; rw [if_pos g]
        have u2 : krun ks k = kx ks (k + 1) - kx ks k := by unfold krun; rw [if_pos g]
        have u3 : krise ks l = ky ks (l + 1) - ky ks l := by unfold krise; rw [if_pos gl]
        have u4 : krun ks l = kx ks (l + 1) - kx ks l := by unfold krun; rw [if_pos gl]
        rw [← u4] at t1
        rw [← u3] at t2
        rw [← u2] at t3
        rw [← u1] at t4
        rw [if_neg (by
          show ¬ i32 (l : Int) = -1
          rw [show (-1 : Int32) = i32 (-1) from rfl]
          intro z
          have := (i32_eq (a := (l : Int)) (b := -1) ⟨by omega, by omega⟩ ⟨by decide, by decide⟩).mp z
          omega)]
        simp only [e2, one32, i32_add, i32_sub, kp1, m_xOf q hi h12 R f2.1, m_xOf q hi h12 R hl, m_yOf q hi h12 R f2.1, m_yOf q hi h12 R hl, m_xOf q hi h12 R f1.1, m_xOf q hi h12 R hk, m_yOf q hi h12 R f1.1, m_yOf q hi h12 R hk, bd_some, lt_def, t1, t2, t3, t4, ← u1, ← u2, ← u3, ← u4, i64_mul]
        cases b
        · rw [if_pos bz_f]
          by_cases c : krise ks l * krun ks k < krise ks k * krun ks l
          · rw [if_pos ((lz_gt r1 r2).mpr c), if_neg (by omega)]; simp only [lt_def, z32, i32_add, kp1, iO, Int.add_zero]
          · rw [if_neg (fun z => c ((lz_gt r1 r2).mp z)), if_pos (by simp; omega)]; rfl
        · rw [if_neg bzt0]
          by_cases c : krise ks k * krun ks l < krise ks l * krun ks k
          · rw [if_neg (fun z => by have := (lz_ge r1 r2).mp z; omega), if_pos (Or.inl c)]; rfl
          · rw [if_pos ((lz_ge r1 r2).mpr (by omega)), if_neg (by simp; omega)]; simp only [lt_def, z32, i32_add, kp1, iO, Int.add_zero]
theorem fo_al {p : Nat → Bool} : ∀ (d k : Nat) (a : Bool), fo (fun k a => a && p k) d k a = (a && al p d k) := by
  intro d
  induction d with
  | zero => intro k a; unfold fo al; simp
  | succ d ih => intro k a; unfold fo al; rw [ih, Bool.and_assoc]
def pWay (ks : List Kn) (b : Bool) : Nat → Bool := if b = true then pUp ks else pDn ks
theorem m_isStrict (q : Mo h) (hi : i < 6) (h12 : ks.length ≤ 12) (R : Rwi h i ks) (P : StP ks) (b : Bool) : fX7_isStrict 220 (i32 i) (if b = true then 1 else -1) h = some (bz (al (pWay ks b) (ks.length - 1) 1), h) := by
  unfold fX7_isStrict
  rw [lt_def, lt_def]
  have hend : ∀ (m n : Nat) (a : Bool), ks.length ≤ n → n ≤ 1000 → fX7_isStrict_l5 (m + 1) 220 (i32 i) (if b = true then 1 else -1) (bz a) (i32 (n : Int)) h = some (bz a, h) := by
    intro m n a hn hn2
    show fX7_isStrict_b5 _ 220 _ _ _ _ h = _
    unfold fX7_isStrict_b5
    rw [if_pos q.k220, m_many q hi R, bd_some, if_pos ((i32_le ⟨by omega, by omega⟩ ⟨by omega, by omega⟩).mpr (by omega)), if_pos (bz_01 a)]
  by_cases h0 : ks.length = 0
  · rw [h0]
    exact hend 99999 1 true (by omega) (by omega)
  have hl := (fo_loop (G := fun m (a : Bool) k => fX7_isStrict_l5 m 220 (i32 i) (if b = true then 1 else -1) (bz a) (i32 (k : Nat)) h) (st := fun k a => a && pWay ks b k) (out := fun a => some (bz a, h)) (I := fun k _ => 0 < k) (N := ks.length) (fun m a _ => hend m _ a (Nat.le_refl _) (by omega)) (by
    intro m a k hk hk0
    refine ⟨by omega, ?_⟩
    have hk1 : k - 1 < ks.length := by omega
    have b1 := P.b hk
    have b2 := P.b hk1
    show fX7_isStrict_b5 _ 220 _ _ (bz a) (i32 (k : Int)) h = fX7_isStrict_l5 _ _ _ _ _ _ _
    unfold fX7_isStrict_b5 fX7_isStrict_b64 fX7_isStrict_b65
    simp only [one32, i32_sub, km1 hk0]
    rw [if_pos q.k220, m_many q hi R, bd_some, if_neg (nle32 hk (by omega))]
    cases a
    · rw [if_pos bz_f]; simp only [lt_def, i32_add, kp1]; rfl
    · rw [if_neg bzt0, m_yOf q hi h12 R hk, bd_some, m_yOf q hi h12 R hk1, bd_some, i32_sub]
      have e1 : ((if b = true then i32 1 else -i32 1 : Int32) * i32 (ky ks k - ky ks (k - 1)) ≤ 0) ↔ ¬ (if b = true then ky ks (k - 1) < ky ks k else ky ks k < ky ks (k - 1)) := by
        cases b
        · rw [if_neg (by decide), if_neg (by decide), i32_neg, i32_mul, show (0 : Int32) = i32 0 from rfl, i32_le ⟨by omega, by omega⟩ ⟨by decide, by decide⟩]
          omega
        · rw [if_pos rfl, if_pos rfl, i32_mul, show (0 : Int32) = i32 0 from rfl, i32_le ⟨by omega, by omega⟩ ⟨by decide, by decide⟩]
          omega
      have e3 : pWay ks b k = (decide (if b = true then ky ks (k - 1) < ky ks k else ky ks k < ky ks (k - 1)) && decide (kx ks (k - 1) < kx ks k)) := by
        unfold pWay pUp pDn; cases b <;> rfl
      by_cases c : (if b = true then ky ks (k - 1) < ky ks k else ky ks k < ky ks (k - 1))
      · rw [if_neg (fun z => (e1.mp z) c), m_xOf q hi h12 R hk, bd_some, m_xOf q hi h12 R hk1, bd_some]
        by_cases c2 : kx ks (k - 1) < kx ks k
        · rw [if_neg (fun z => by have := (i32_le (P.x32 hk) (P.x32 hk1)).mp z; omega), e3]
          simp only [lt_def, i32_add, kp1]
          rw [decide_eq_true c, decide_eq_true c2]; rfl
        · rw [if_pos ((i32_le (P.x32 hk) (P.x32 hk1)).mpr (by omega)), e3]
          simp only [lt_def, i32_add, kp1]
          rw [decide_eq_false c2, Bool.and_false]; rfl
      · rw [if_pos (e1.mpr c), e3]
        simp only [lt_def, i32_add, kp1]
        rw [decide_eq_false c]; rfl) (ks.length - 1) 1 FU true (by omega) (by rw [FU_eq]; omega) (by decide)).1
  rw [fo_al] at hl
  rw [Bool.true_and] at hl
  exact hl
end MQ
