/-! THE REFERENCE'S end -/
def cov (L : Nat → Ln) (x : Rat) (m : Nat) : Prop := (lnF (L m) : Rat) ≤ x ∧ x ≤ (lnT (L m) : Rat)
def LstB (L : Nat → Ln) (k : Nat) (x : Rat) (b : Int) : Prop := (b = -1 ∧ ∀ m, m < k → ¬ cov L x m) ∨ ∃ o : Nat, b = o ∧ o < k ∧ cov L x o ∧ ∀ m, m < k → cov L x m → vl (L o) x ≤ vl (L m) x
theorem m1_32 : (-1 : Int32) = i32 (-1) := rfl
section EN
variable {MA MB MC NP NQ : Int} {L : Nat → Ln} {n : Nat} {h : xH} {ks : List Kn} {x : Rat}
theorem LstB.skip {k : Nat} {b : Int} (u : LstB L k x b) (c : ¬ cov L x k) : LstB L (k + 1) x b := by
  rcases u with ⟨e, u⟩ | ⟨o, e, ho, co, u⟩
  · refine Or.inl ⟨e, fun m hm => ?_⟩
    by_cases z : m = k
    · rw [z]; exact c
    · exact u m (by omega)
  · refine Or.inr ⟨o, e, by omega, co, fun m hm cm => ?_⟩
    by_cases z : m = k
    · rw [z] at cm; exact absurd cm c
    · exact u m (by omega) cm
theorem m_la6 (kk : Kon MA MB MC NP NQ) (q : Mo h) (w : Lns h L n) (hn : n ≤ 700) (bL : ∀ k, k < n → LBd MA MB MC (L k)) (bF : ∀ k, k < n → B32 (lnF (L k)) ∧ B32 (lnT (L k)) ∧ Pt NP NQ (lnF (L k)) ∧ Pt NP NQ (lnT (L k))) (c : hI h 220 19 = i32 n) (hx : Pt NP NQ x) : ∀ (d k m : Nat) (b : Int), k + d = n → d < m → LstB L k x b → ∃ b', fX7_leastAt_l6 m 220 (i64 x.num) (i64 x.den) (i32 b) (i32 k) h = some (i32 b', h) ∧ LstB L n x b' := by
  intro d
  induction d with
  | zero =>
    intro k m b hk hm u
    obtain ⟨m, rfl⟩ : ∃ k, m = k + 1 := ⟨m - 1, by omega⟩
    refine ⟨b, ?_, by rw [← hk]; exact u⟩
    show fX7_leastAt_b6 _ _ _ _ _ _ _ = _
    unfold fX7_leastAt_b6
    rw [if_pos q.k220, c, if_pos ((i32_le ⟨by omega, by omega⟩ ⟨by omega, by omega⟩).mpr (by omega))]
  | succ d ih =>
    intro k m b hk hm u
    obtain ⟨m, rfl⟩ : ∃ k, m = k + 1 := ⟨m - 1, by omega⟩
    show ∃ b', fX7_leastAt_b6 _ _ _ _ _ _ _ = _ ∧ _
    have e1 := nat_i k (by omega)
    have x1 : ix (i32 k) 700 := ix_i (by omega) (by omega) (by decide)
    have wk := w k (by omega)
    have bk := bF k (by omega)
    have mF : fX7_lie (i64 (lnF (L k))) (1 : Int64) (i64 x.num) (i64 x.den) h = some (i32 (sg ((lnF (L k) : Rat).num * x.den - x.num * (lnF (L k) : Rat).den)), h) := by
      rw [← m_lieR h kk.2.2.1 kk.2.2.2 bk.2.2.1 hx, Rat.num_intCast, int_den]
    have mT : fX7_lie (i64 (lnT (L k))) (1 : Int64) (i64 x.num) (i64 x.den) h = some (i32 (sg ((lnT (L k) : Rat).num * x.den - x.num * (lnT (L k) : Rat).den)), h) := by
      rw [← m_lieR h kk.2.2.1 kk.2.2.2 bk.2.2.2 hx, Rat.num_intCast, int_den]
    unfold fX7_leastAt_b6
    rw [if_pos q.k220, c, if_neg (fun z => by have := (i32_le ⟨by omega, by omega⟩ ⟨by omega, by omega⟩).mp z; omega)]
    simp only [q.r20, q.r21, q.k235, q.k236, q.l235, q.l236, if_pos x1, e1, wk.1, wk.2.1, i64_of32 bk.1, i64_of32 bk.2.1, mF, mT, bd_some, reduceIte]
    unfold fX7_leastAt_b53 fX7_leastAt_b54 fX7_leastAt_b85 fX7_leastAt_b80 fX7_leastAt_b87
    have nx : ∀ v : Int32, (lt (i32 k + 1) fun v1 => fX7_leastAt_l6 m 220 (i64 x.num) (i64 x.den) v v1 h) = fX7_leastAt_l6 m 220 (i64 x.num) (i64 x.den) v (i32 ((k + 1 : Nat) : Int)) h := by
      intro v; rw [lt_def, one32, i32_add]; rfl
    by_cases c1 : x < (lnF (L k) : Rat)
    · rw [if_pos ((si_gt _).mpr (sr_gt.mpr c1)), if_pos rfl, nx]
      exact ih (k + 1) m b (by omega) (by omega) (u.skip (fun z => by have := z.1; grind))
    · rw [if_neg (fun z => c1 (sr_gt.mp ((si_gt _).mp z)))]
      by_cases c2 : (lnT (L k) : Rat) < x
      · rw [if_pos ((si_lt _).mpr (sr_lt.mpr c2)), if_pos rfl, nx]
        exact ih (k + 1) m b (by omega) (by omega) (u.skip (fun z => by have := z.2; grind))
      · rw [if_neg (fun z => c2 (sr_lt.mp ((si_lt _).mp z))), if_neg (by decide)]
        have ck : cov L x k := ⟨by grind, by grind⟩
        rcases u with ⟨e, u⟩ | ⟨o, e, ho, co, u⟩
        · rw [if_pos (by rw [e]; rfl), nx]
          refine ih (k + 1) m k (by omega) (by omega) (Or.inr ⟨k, rfl, by omega, ck, fun j hj cj => ?_⟩)
          by_cases z : j = k
          · rw [z]; grind
          · exact absurd cj (u j (by omega))
        · rw [if_neg (fun z => by rw [m1_32] at z; have := (i32_eq ⟨by omega, by omega⟩ ⟨by omega, by omega⟩).mp z; omega), if_pos q.k220, e]
          obtain ⟨z, E, A, C⟩ := m_lieAt kk q w hn (show k < n by omega) (show o < n by omega) (bL k (by omega)) (bL o (by omega)) hx
          rw [E, bd_some, nx, nx]
          by_cases c3 : vl (L k) x < vl (L o) x
          · rw [if_neg (fun y => by have := A.mpr c3; have := (si_ge _).mp y; omega)]
            refine ih (k + 1) m k (by omega) (by omega) (Or.inr ⟨k, rfl, by omega, ck, fun j hj cj => ?_⟩)
            by_cases y : j = k
            · rw [y]; grind
            · have := u j (by omega) cj; grind
          · rw [if_pos ((si_ge _).mpr (by have : ¬ sg z < 0 := fun y => c3 (A.mp y); omega))]
            refine ih (k + 1) m o (by omega) (by omega) (Or.inr ⟨o, rfl, by omega, co, fun j hj cj => ?_⟩)
            by_cases y : j = k
            · rw [y]; grind
            · exact u j (by omega) cj
theorem m_leastAt (kk : Kon MA MB MC NP NQ) (q : Mo h) (w : Lns h L n) (hn : n ≤ 700) (bL : ∀ k, k < n → LBd MA MB MC (L k)) (bF : ∀ k, k < n → B32 (lnF (L k)) ∧ B32 (lnT (L k)) ∧ Pt NP NQ (lnF (L k)) ∧ Pt NP NQ (lnT (L k))) (c : hI h 220 19 = i32 n) (hx : Pt NP NQ x) : ∃ b', fX7_leastAt 220 (i64 x.num) (i64 x.den) h = some (i32 b', h) ∧ LstB L n x b' := by
  unfold fX7_leastAt
  rw [lt_def, lt_def, m1_32, show (0 : Int32) = i32 ((0 : Nat) : Int) from rfl]
  exact m_la6 kk q w hn bL bF c hx n 0 FU (-1) (by omega) (by rw [FU_eq]; omega) (Or.inl ⟨rfl, fun m hm => by omega⟩)
/-- the lone one -/
theorem lone_eq {a b : Option (Rat × Rat)} {c : Option Rat} {e : Nat} (ha : Sd L n true x a) (hb : Sd L n false x b) (hc : Sp L n x c) (he : e < n) (ce : cov L x e) (le : ∀ m, m < n → cov L x m → vl (L e) x ≤ vl (L m) x) : kno x a b (some (vl (L e) x)) = kno x a b c := by
  have lonecov : ∀ k, isLone L x k → cov L x k := fun k z => ⟨by rw [z.1]; grind, by rw [z.2]; grind⟩
  have key : loneB a b (some (vl (L e) x)) = true → c = some (vl (L e) x) := by
    intro hl
    have ea : ∀ u, a = some u → vl (L e) x < u.1 := by
      intro u hu; rw [hu] at hl; unfold loneB at hl; simp at hl; exact hl.1
    have eb : ∀ u, b = some u → vl (L e) x < u.1 := by
      intro u hu; rw [hu] at hl; unfold loneB at hl; simp at hl; exact hl.2
    have F : ¬ (lnF (L e) : Rat) < x := by
      intro z
      have lve : lv L true x e := ⟨by unfold bey; simp; exact z, by unfold bey; simp; have := ce.2; grind⟩
      obtain ⟨o, ho⟩ := Low_ex he lve
      cases a with
      | none => exact ha o ho
      | some u =>
        obtain ⟨o', ho', eu⟩ := ha
        have := ea u rfl
        rw [eu] at this
        have hco : cov L x o' := by
          have h1 := ho'.2.1.1
          have h2 := ho'.2.1.2
          unfold bey at h1 h2
          simp at h1 h2
          exact ⟨by grind, by grind⟩
        have e2 : ¬ vl (L o') x > vl (L e) x := by
          by_cases z2 : e = o'
          · rw [z2]; grind
          · have := ho'.2.2 e he lve z2
            unfold bt at this
            grind
        exact e2 this
    have T : ¬ x < (lnT (L e) : Rat) := by
      intro z
      have lve : lv L false x e := ⟨by unfold bey; simp; exact ce.1, by unfold bey; simp; grind⟩
      obtain ⟨o, ho⟩ := Low_ex he lve
      cases b with
      | none => exact hb o ho
      | some u =>
        obtain ⟨o', ho', eu⟩ := hb
        have := eb u rfl
        rw [eu] at this
        have e2 : ¬ vl (L o') x > vl (L e) x := by
          by_cases z2 : e = o'
          · rw [z2]; grind
          · have := ho'.2.2 e he lve z2
            unfold bt at this
            grind
        exact e2 this
    have il : isLone L x e := ⟨by have := ce.1; grind, by have := ce.2; grind⟩
    cases c with
    | none => exact absurd il (hc e he)
    | some v =>
      obtain ⟨⟨k, hk, ik, ev⟩, hmin⟩ := hc
      have h1 := hmin e he il
      have h2 := le k hk (lonecov k ik)
      rw [ev] at h1 ⊢
      congr 1; grind
  by_cases hl : loneB a b (some (vl (L e) x)) = true
  · rw [key hl]
  · have hl2 : loneB a b c = false := by
      cases c with
      | none => rfl
      | some v =>
        obtain ⟨⟨k, hk, ik, ev⟩, hmin⟩ := hc
        have h2 := le k hk (lonecov k ik)
        rw [← ev] at h2
        cases a <;> cases b <;> unfold loneB at hl ⊢ <;> simp at hl ⊢ <;> grind
    have hl3 : loneB a b (some (vl (L e) x)) = false := by
      cases z : loneB a b (some (vl (L e) x))
      · rfl
      · exact absurd z hl
    unfold kno
    rw [hl2, hl3]
    rfl
end EN
