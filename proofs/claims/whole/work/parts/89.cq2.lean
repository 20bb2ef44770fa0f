/-! THE CLASS' SHAPES ASKED, 2: canBeTurned, knotOfLine, lowest, highest, area -/
def al (p : Nat → Bool) : Nat → Nat → Bool
  | 0, _ => true
  | d + 1, k => p k && al p d (k + 1)
section CQ
variable {h : xH} {s cap : Nat} {ks : List Kn}
def pUp (ks : List Kn) (k : Nat) : Bool := decide (ky ks (k - 1) < ky ks k) && decide (kx ks (k - 1) < kx ks k)
def pDn (ks : List Kn) (k : Nat) : Bool := decide (ky ks k < ky ks (k - 1)) && decide (kx ks (k - 1) < kx ks k)
def canT (ks : List Kn) : Bool := al (pUp ks) (ks.length - 1) 1 || al (pDn ks) (ks.length - 1) 1
def sTurn (ks : List Kn) (h : xH) (k : Nat) (a : Bool × Bool) : Sum (Option (Int32 × xH)) (Bool × Bool) := if kx ks (k - 1) < kx ks k then .inr (a.1 && decide (ky ks (k - 1) < ky ks k), a.2 && decide (ky ks k < ky ks (k - 1))) else .inl (some (bz false, h))
theorem ru_turn : ∀ (d k : Nat) (a : Bool × Bool), ru (sTurn ks h) (fun a => some (bz (a.1 || a.2), h)) d k a = some (bz ((a.1 && al (pUp ks) d k) || (a.2 && al (pDn ks) d k)), h) := by
  intro d
  induction d with
  | zero => intro k a; unfold ru al; simp
  | succ d ih =>
    intro k a
    unfold ru al
    by_cases c : kx ks (k - 1) < kx ks k
    · have e : sTurn ks h k a = .inr (a.1 && decide (ky ks (k - 1) < ky ks k), a.2 && decide (ky ks k < ky ks (k - 1))) := by unfold sTurn; rw [if_pos c]
      rw [e]
      show ru _ _ d (k + 1) _ = _
      rw [ih]
      unfold pUp pDn
      simp [c, Bool.and_assoc]
    · have e : sTurn ks h k a = .inl (some (bz false, h)) := by unfold sTurn; rw [if_neg c]
      rw [e]
      unfold pUp pDn
      simp [c]
theorem bz_eq0 (b : Bool) {α : Type} (x y : α) : (if bz b = 0 then x else y) = (if b = true then y else x) := by cases b <;> rfl
theorem c_canBeTurned (W : ShK h s cap ks) (P : StP ks) : fX4_canBeTurned s h = some (bz (canT ks), h) := by
  have hc := W.2.2
  unfold fX4_canBeTurned
  rw [lt_def, lt_def, lt_def]
  have hend : ∀ (m n : Nat) (a : Bool × Bool), ks.length ≤ n → n ≤ 10000 → fX4_canBeTurned_l6 (m + 1) s (bz a.1) (bz a.2) (i32 (n : Int)) h = some (bz (a.1 || a.2), h) := by
    intro m n a hn hn2
    show fX4_canBeTurned_b6 _ s _ _ _ h = _
    unfold fX4_canBeTurned_b6 fX4_canBeTurned_b104
    rw [if_pos W.1.1, W.2.1.1, if_pos ((i32_le ⟨by omega, by omega⟩ ⟨by omega, by omega⟩).mpr (by omega))]
    obtain ⟨a1, a2⟩ := a
    cases a1 <;> cases a2 <;> rfl
  by_cases h0 : ks.length = 0
  · have e : canT ks = true := by unfold canT; rw [h0]; rfl
    rw [e]
    exact hend 99999 1 (true, true) (by omega) (by omega)
  have hl := ru_loop (G := fun m (a : Bool × Bool) k => fX4_canBeTurned_l6 m s (bz a.1) (bz a.2) (i32 (k : Nat)) h) (st := sTurn ks h) (out := fun a => some (bz (a.1 || a.2), h)) (I := fun k _ => 0 < k) (N := ks.length) (fun m a _ => hend m _ a (Nat.le_refl _) (by omega)) (by
    intro m a k hk hk0
    have hk1 : k - 1 < ks.length := by omega
    have ex : fX4_canBeTurned_l6 (m + 1) s (bz a.1) (bz a.2) (i32 (k : Int)) h = (if kx ks (k - 1) < kx ks k then fX4_canBeTurned_l6 m s (bz (a.1 && decide (ky ks (k - 1) < ky ks k))) (bz (a.2 && decide (ky ks k < ky ks (k - 1)))) (i32 ((k + 1 : Nat) : Int)) h else some (bz false, h)) := by
      show fX4_canBeTurned_b6 _ s _ _ _ h = _
      unfold fX4_canBeTurned_b6 fX4_canBeTurned_b60 fX4_canBeTurned_b61 fX4_canBeTurned_b88 fX4_canBeTurned_b89
      simp only [one32, i32_sub, km1 hk0, W.1.1, W.2.1.1, W.c1, W.c3, if_pos (W.x hk).1, if_pos (W.x hk1).1, if_pos (W.x hk).2.1, if_pos (W.x hk1).2.1, (W.v hk).1, (W.v hk1).1, (W.v hk).2.1, (W.v hk1).2.1, reduceIte, if_neg (nle32 hk (by omega)), lz_gt (P.x64 hk) (P.x64 hk1), lz_le (P.y64 hk) (P.y64 hk1), lz_ge (P.y64 hk) (P.y64 hk1), bz_eq0, lt_def, i32_add, kp1]
      obtain ⟨a1, a2⟩ := a
      by_cases c : kx ks (k - 1) < kx ks k
      · rw [if_pos c, if_pos c]
        by_cases c1 : ky ks (k - 1) < ky ks k
        · have c2 : ¬ ky ks k < ky ks (k - 1) := by omega
          have c3 : ¬ ky ks k ≤ ky ks (k - 1) := by omega
          have c4 : ky ks (k - 1) ≤ ky ks k := by omega
          cases a1 <;> cases a2 <;> simp only [c1, c2, c3, c4, decide_true, decide_false, Bool.and_true, Bool.and_false, reduceIte] <;> rfl
        · by_cases c2 : ky ks k < ky ks (k - 1)
          · have c3 : ky ks k ≤ ky ks (k - 1) := by omega
            have c4 : ¬ ky ks (k - 1) ≤ ky ks k := by omega
            cases a1 <;> cases a2 <;> simp only [c1, c2, c3, c4, decide_true, decide_false, Bool.and_true, Bool.and_false, reduceIte] <;> rfl
          · have c3 : ky ks k ≤ ky ks (k - 1) := by omega
            have c4 : ky ks (k - 1) ≤ ky ks k := by omega
            cases a1 <;> cases a2 <;> simp only [c1, c2, c3, c4, decide_true, decide_false, Bool.and_true, Bool.and_false, reduceIte] <;> rfl
      · rw [if_neg c, if_neg c]; rfl
    by_cases c : kx ks (k - 1) < kx ks k
    · rw [if_pos c] at ex
      exact Or.inr ⟨_, by unfold sTurn; rw [if_pos c], by omega, ex⟩
    · rw [if_neg c] at ex
      exact Or.inl ⟨_, by unfold sTurn; rw [if_neg c], ex⟩) (ks.length - 1) 1 FU (true, true) (by omega) (by rw [FU_eq]; omega) (by decide)
  rw [ru_turn] at hl
  exact hl
/-! the knot of a line -/
def sKnl (ks : List Kn) (t : Int) (k : Nat) (a : Nat) : Sum (Option Nat) Nat := if kg ks k = true then (if (a : Int) = t then .inl (some k) else .inr (a + 1)) else .inr a
def knl (ks : List Kn) (t : Int) : Option Nat := ru (sKnl ks t) (fun _ => none) ks.length 0 0
theorem c_knotOfLine (W : ShK h s cap ks) (F : StF ks) {t : Int} (ht : B32 t) : fX4_knotOfLine s (i32 t) h = some (i32 (iO (knl ks t)), h) := by
  have hc := W.2.2
  unfold fX4_knotOfLine
  rw [lt_def, lt_def]
  have key : ∀ (d k m a : Nat), k + d = ks.length → d < m → a ≤ k → fX4_knotOfLine_l4 m s (i32 t) (i32 (a : Int)) (i32 (k : Int)) h = some (i32 (iO (ru (sKnl ks t) (fun _ => none) d k a)), h) := by
    intro d
    induction d with
    | zero =>
      intro k m a hk hm ha
      obtain ⟨m, rfl⟩ : ∃ k, m = k + 1 := ⟨m - 1, by omega⟩
      show fX4_knotOfLine_b4 _ s _ _ _ h = _
      unfold fX4_knotOfLine_b4 ru
      rw [if_pos W.1.1, W.2.1.1, if_pos (by rw [show k = ks.length by omega]; exact Int32.le_refl _)]; rfl
    | succ d ih =>
      intro k m a hk hm ha
      obtain ⟨m, rfl⟩ : ∃ k, m = k + 1 := ⟨m - 1, by omega⟩
      have hkl : k < ks.length := by omega
      show fX4_knotOfLine_b4 _ s _ _ _ h = _
      unfold fX4_knotOfLine_b4 fX4_knotOfLine_b30 ru sKnl
      rw [if_pos W.1.1, W.2.1.1, if_neg (nle32 hkl (by omega)), c_hasLine W F hkl, bd_some]
      cases g : kg ks k
      · rw [if_pos bz_f, if_neg (by decide)]; simp only [lt_def, one32, i32_add, kp1]
        exact ih (k + 1) m a (by omega) (by omega) (by omega)
      · rw [if_neg bzt0, if_pos rfl]
        by_cases c : (a : Int) = t
        · rw [if_pos (by rw [c]), if_pos c]; rfl
        · rw [if_neg (fun z => c ((i32_eq ⟨by omega, by omega⟩ ht).mp z)), if_neg c]; simp only [lt_def, one32, i32_add, kp1]
          exact ih (k + 1) m (a + 1) (by omega) (by omega) (by omega)
  exact key ks.length 0 FU 0 (by omega) (by rw [FU_eq]; omega) (by omega)
/-! lowest, highest -/
def sFst (ks : List Kn) (k a : Nat) : Nat := if ky ks k < ky ks a then k else a
def sLst (ks : List Kn) (k a : Nat) : Nat := if ky ks k ≤ ky ks a then k else a
def sHi (ks : List Kn) (k : Nat) (a : Int) : Int := if a ≤ ky ks k then ky ks k else a
theorem c_firstLowest (W : ShK h s cap ks) (P : StP ks) (h0 : 0 < ks.length) : fX4_firstLowest s h = some (i32 ((fo (sFst ks) (ks.length - 1) 1 0 : Nat) : Int), h) ∧ fo (sFst ks) (ks.length - 1) 1 0 < ks.length := by
  have hc := W.2.2
  unfold fX4_firstLowest
  rw [lt_def, lt_def]
  refine fo_loop (G := fun m (a : Nat) k => fX4_firstLowest_l4 m s (i32 (a : Int)) (i32 (k : Nat)) h) (st := sFst ks) (out := fun (a : Nat) => some (i32 (a : Int), h)) (I := fun _ a => a < ks.length) (N := ks.length) ?_ ?_ (ks.length - 1) 1 FU 0 (by omega) (by rw [FU_eq]; omega) h0
  · intro m a _
    show fX4_firstLowest_b4 _ s _ (i32 ks.length) h = _
    unfold fX4_firstLowest_b4
    rw [if_pos W.1.1, W.2.1.1, if_pos (Int32.le_refl _)]
  · intro m a k hk ha
    refine ⟨by unfold sFst; split <;> omega, ?_⟩
    show fX4_firstLowest_b4 _ s _ (i32 (k : Int)) h = fX4_firstLowest_l4 _ _ _ _ _
    unfold fX4_firstLowest_b4 fX4_firstLowest_b30 sFst
    rw [if_pos W.1.1, W.2.1.1, if_neg (nle32 hk (by omega)), if_pos W.c3, if_pos (W.x hk).2.1, if_pos (W.x ha).2.1, (W.v hk).2.1, (W.v ha).2.1]
    by_cases c : ky ks k < ky ks a
    · rw [if_neg (fun z => by have := (lz_ge (P.y64 hk) (P.y64 ha)).mp z; omega), if_pos c]; simp only [lt_def, one32, i32_add, kp1]
    · rw [if_pos ((lz_ge (P.y64 hk) (P.y64 ha)).mpr (by omega)), if_neg c]; simp only [lt_def, one32, i32_add, kp1]
theorem c_lastLowest (W : ShK h s cap ks) (P : StP ks) (h0 : 0 < ks.length) : fX4_lastLowest s h = some (i32 ((fo (sLst ks) (ks.length - 1) 1 0 : Nat) : Int), h) ∧ fo (sLst ks) (ks.length - 1) 1 0 < ks.length := by
  have hc := W.2.2
  unfold fX4_lastLowest
  rw [lt_def, lt_def]
  refine fo_loop (G := fun m (a : Nat) k => fX4_lastLowest_l4 m s (i32 (a : Int)) (i32 (k : Nat)) h) (st := sLst ks) (out := fun (a : Nat) => some (i32 (a : Int), h)) (I := fun _ a => a < ks.length) (N := ks.length) ?_ ?_ (ks.length - 1) 1 FU 0 (by omega) (by rw [FU_eq]; omega) h0
  · intro m a _
    show fX4_lastLowest_b4 _ s _ (i32 ks.length) h = _
    unfold fX4_lastLowest_b4
    rw [if_pos W.1.1, W.2.1.1, if_pos (Int32.le_refl _)]
  · intro m a k hk ha
    refine ⟨by unfold sLst; split <;> omega, ?_⟩
    show fX4_lastLowest_b4 _ s _ (i32 (k : Int)) h = fX4_lastLowest_l4 _ _ _ _ _
    unfold fX4_lastLowest_b4 fX4_lastLowest_b30 sLst
    rw [if_pos W.1.1, W.2.1.1, if_neg (nle32 hk (by omega)), if_pos W.c3, if_pos (W.x hk).2.1, if_pos (W.x ha).2.1, (W.v hk).2.1, (W.v ha).2.1]
    by_cases c : ky ks k ≤ ky ks a
    · rw [if_neg (fun z => by have := (lz_gt (P.y64 hk) (P.y64 ha)).mp z; omega), if_pos c]; simp only [lt_def, one32, i32_add, kp1]
    · rw [if_pos ((lz_gt (P.y64 hk) (P.y64 ha)).mpr (by omega)), if_neg c]; simp only [lt_def, one32, i32_add, kp1]
theorem c_max64 {a b : Int} (ha : B64 a) (hb : B64 b) (h : xH) : fJ9_max_f86c9 (i64 a) (i64 b) h = some (i64 (if a ≤ b then b else a), h) := by
  unfold fJ9_max_f86c9
  split
  · rename_i c
    have := (lz_lt ha hb).mp c
    rw [if_pos (by omega)]
  · rename_i c
    have : ¬ a < b := fun z => c ((lz_lt ha hb).mpr z)
    by_cases e : a = b
    · rw [if_pos (by omega), e]
    · rw [if_neg (by omega)]
theorem c_highest (W : ShK h s cap ks) (P : StP ks) (h0 : 0 < ks.length) : fX4_highest s h = some (i32 (fo (sHi ks) (ks.length - 1) 1 (ky ks 0)), h) := by
  have hc := W.2.2
  unfold fX4_highest
  have x0 := W.x h0
  have v0 := W.v h0
  rw [if_pos W.1.1, if_pos W.c3, if_pos (show ix (0 : Int32) (kl h (hR h s 3)) from x0.2.1), lt_def, lt_def]
  have v1 : hJ h (hR h s 3) (0 : Int32).toNatClampNeg = i64 (ky ks 0) := v0.2.1
  rw [v1]
  refine (fo_loop (G := fun m (a : Int) k => fX4_highest_l9 m s (i64 a) (i32 (k : Nat)) h) (st := sHi ks) (out := fun a => some (i32 a, h)) (I := fun _ a => B64 a) (N := ks.length) ?_ ?_ (ks.length - 1) 1 FU (ky ks 0) (by omega) (by rw [FU_eq]; omega) (P.y64 h0)).1
  · intro m a _
    show fX4_highest_b9 _ s (i64 a) (i32 ks.length) h = _
    unfold fX4_highest_b9
    rw [if_pos W.1.1, W.2.1.1, if_pos (Int32.le_refl _), i32_of64]
  · intro m a k hk ha
    refine ⟨by unfold sHi; split; exact P.y64 hk; exact ha, ?_⟩
    show fX4_highest_b9 _ s (i64 a) (i32 (k : Int)) h = fX4_highest_l9 _ _ _ _ _
    unfold fX4_highest_b9 sHi
    rw [if_pos W.1.1, W.2.1.1, if_neg (nle32 hk (by omega)), if_pos W.c3, if_pos (W.x hk).2.1, (W.v hk).2.1, c_max64 ha (P.y64 hk), bd_some]
    simp only [lt_def, one32, i32_add, kp1]
/-! the area -/
def sArea (ks : List Kn) (k : Nat) (a : Int) : Int := if kg ks k = true then a + (ky ks k + ky ks (k + 1)) * krun ks k else a
def nArea (ks : List Kn) : Int := fo (sArea ks) ks.length 0 0
theorem c_twiceArea (W : ShK h s cap ks) (F : StF ks) : fX4_twiceArea s h = some (i64 (nArea ks), h) := by
  have hc := W.2.2
  unfold fX4_twiceArea
  rw [lt_def, lt_def]
  refine (fo_loop (G := fun m (a : Int) k => fX4_twiceArea_l4 m s (i64 a) (i32 (k : Nat)) h) (st := sArea ks) (out := fun a => some (i64 a, h)) (I := fun _ _ => True) (N := ks.length) ?_ ?_ ks.length 0 FU 0 (by omega) (by rw [FU_eq]; omega) trivial).1
  · intro m a _
    show fX4_twiceArea_b4 _ s (i64 a) (i32 ks.length) h = _
    unfold fX4_twiceArea_b4
    rw [if_pos W.1.1, W.2.1.1, if_pos (Int32.le_refl _)]
  · intro m a k hk _
    refine ⟨trivial, ?_⟩
    show fX4_twiceArea_b4 _ s (i64 a) (i32 (k : Int)) h = fX4_twiceArea_l4 _ _ _ _ _
    unfold fX4_twiceArea_b4 fX4_twiceArea_b44 sArea
    rw [if_pos W.1.1, W.2.1.1, if_neg (nle32 hk (by omega)), c_hasLine W F hk, bd_some]
    cases g : kg ks k
    · rw [if_pos bz_f, if_neg (by decide)]; simp only [lt_def, one32, i32_add, kp1]
    · have f := F.2 k hk g
      rw [if_neg bzt0, if_pos rfl, if_pos W.c3, if_pos (W.x hk).2.1, one32, i32_add, kp1, if_pos (W.x f.1).2.1, c_runOf W F hk, bd_some, (W.v hk).2.1, (W.v f.1).2.1]
      simp only [lt_def, i32_add, i64_add, i64_mul, kp1]
end CQ
