/-! BOTH SIDES ASKED: least -/
section AS
variable {h : xH} {cur : Nat → List Kn} {ks : List Kn}
def IsFst (ks : List Kn) (n f : Nat) : Prop := f < n ∧ (∀ j, j < n → ky ks f ≤ ky ks j) ∧ ∀ j, j < f → ky ks f < ky ks j
def IsLst (ks : List Kn) (n f : Nat) : Prop := f < n ∧ (∀ j, j < n → ky ks f ≤ ky ks j) ∧ ∀ j, f < j → j < n → ky ks f < ky ks j
theorem fst_is (ks : List Kn) : ∀ (d k a : Nat), 0 < k → IsFst ks k a → IsFst ks (k + d) (fo (sFst ks) d k a) := by
  intro d
  induction d with
  | zero => intro k a _ w; exact w
  | succ d ih =>
    intro k a hk ⟨w1, w2, w3⟩
    unfold fo
    rw [show k + (d + 1) = k + 1 + d by omega]
    refine ih (k + 1) _ (by omega) ?_
    unfold sFst
    split
    · rename_i c
      exact ⟨by omega, fun j hj => by
        by_cases e : j = k
        · rw [e]; omega
        · have := w2 j (by omega); omega, fun j hj => by have := w2 j (by omega); omega⟩
    · rename_i c
      exact ⟨by omega, fun j hj => by
        by_cases e : j = k
        · rw [e]; omega
        · exact w2 j (by omega), w3⟩
theorem lst_is (ks : List Kn) : ∀ (d k a : Nat), 0 < k → IsLst ks k a → IsLst ks (k + d) (fo (sLst ks) d k a) := by
  intro d
  induction d with
  | zero => intro k a _ w; exact w
  | succ d ih =>
    intro k a hk ⟨w1, w2, w3⟩
    unfold fo
    rw [show k + (d + 1) = k + 1 + d by omega]
    refine ih (k + 1) _ (by omega) ?_
    unfold sLst
    split
    · rename_i c
      exact ⟨by omega, fun j hj => by
        by_cases e : j = k
        · rw [e]; omega
        · have := w2 j (by omega); omega, fun j hj hj2 => by omega⟩
    · rename_i c
      exact ⟨by omega, fun j hj => by
        by_cases e : j = k
        · rw [e]; omega
        · exact w2 j (by omega), fun j hj hj2 => by
        by_cases e : j = k
        · rw [e]; omega
        · exact w3 j hj (by omega)⟩
def sLH (ks : List Kn) (k : Nat) (a : Int × Int) : Int × Int := (if ky ks k < a.1 then ky ks k else a.1, if a.2 < ky ks k then ky ks k else a.2)
theorem lh_is (ks : List Kn) : ∀ (d k : Nat) (a : Int × Int) (f : Nat) (b : Int), ky ks f = a.1 → b = a.2 → fo (sLH ks) d k a = (ky ks (fo (sFst ks) d k f), fo (sHi ks) d k b) := by
  intro d
  induction d with
  | zero => intro k a f b e1 e2; unfold fo; rw [e1, e2]
  | succ d ih =>
    intro k a f b e1 e2
    unfold fo
    refine ih (k + 1) _ _ _ ?_ ?_
    · unfold sFst sLH; rw [e1]; split <;> simp [e1]
    · unfold sHi sLH; rw [e2]; show _ = (if a.2 < ky ks k then ky ks k else a.2); split <;> split <;> omega
def sFL (ks : List Kn) (lo : Int) (k : Nat) (a : Option Nat × Option Nat) : Option Nat × Option Nat := if ky ks k = lo then (match a.1 with
  | none => some k
  | some f => some f, some k) else a
def FLI (ks : List Kn) (lo : Int) (k : Nat) (a : Option Nat × Option Nat) : Prop := (match a.1 with
  | none => ∀ j, j < k → ky ks j ≠ lo
  | some f => f < k ∧ ky ks f = lo ∧ ∀ j, j < f → ky ks j ≠ lo) ∧ match a.2 with
  | none => ∀ j, j < k → ky ks j ≠ lo
  | some l => l < k ∧ ky ks l = lo ∧ ∀ j, l < j → j < k → ky ks j ≠ lo
theorem FLI.st {lo : Int} {k : Nat} {a : Option Nat × Option Nat} (w : FLI ks lo k a) : FLI ks lo (k + 1) (sFL ks lo k a) := by
  obtain ⟨a1, a2⟩ := a
  obtain ⟨w1, w2⟩ := w
  unfold sFL
  by_cases c : ky ks k = lo
  · rw [if_pos c]
    refine ⟨?_, by show k < k + 1 ∧ _; exact ⟨by omega, c, fun j h1 h2 => by omega⟩⟩
    cases a1 with
    | none => exact ⟨by omega, c, fun j hj => w1 j hj⟩
    | some f => exact ⟨by have := w1.1; omega, w1.2⟩
  · rw [if_neg c]
    refine ⟨?_, ?_⟩
    · cases a1 with
      | none =>
        intro j hj
        by_cases e : j = k
        · rw [e]; exact c
        · exact w1 j (by omega)
      | some f => exact ⟨by have := w1.1; omega, w1.2⟩
    · cases a2 with
      | none =>
        intro j hj
        by_cases e : j = k
        · rw [e]; exact c
        · exact w2 j (by omega)
      | some l =>
        refine ⟨by have := w2.1; omega, w2.2.1, fun j h1 h2 => ?_⟩
        by_cases e : j = k
        · rw [e]; exact c
        · exact w2.2.2 j h1 (by omega)
theorem fst_eq {lo : Int} {f : Nat} {a : Option Nat × Option Nat} (w : FLI ks lo ks.length a) (hf : IsFst ks ks.length f) (e : lo = ky ks f) : a.1 = some f := by
  obtain ⟨a1, a2⟩ := a
  obtain ⟨w1, w2⟩ := w
  cases a1 with
  | none => exact absurd e.symm (w1 f hf.1)
  | some g =>
    show some g = some f
    congr 1
    apply Classical.byContradiction
    intro hne
    rcases Nat.lt_or_gt_of_ne hne with c | c
    · have := hf.2.2 g c; have := w1.2.1; omega
    · exact w1.2.2 f c e.symm
theorem lst_eq {lo : Int} {f g : Nat} {a : Option Nat × Option Nat} (w : FLI ks lo ks.length a) (hf : IsLst ks ks.length f) (hg : IsFst ks ks.length g) (e : lo = ky ks g) : a.2 = some f := by
  obtain ⟨a1, a2⟩ := a
  obtain ⟨w1, w2⟩ := w
  have e2 : lo = ky ks f := by
    have := hf.2.1 g hg.1
    have := hg.2.1 f hf.1
    omega
  cases a2 with
  | none => exact absurd e2.symm (w2 f hf.1)
  | some l =>
    show some l = some f
    congr 1
    apply Classical.byContradiction
    intro hne
    rcases Nat.lt_or_gt_of_ne hne with c | c
    · exact w2.2.2 f c hf.1 e2.symm
    · have := hf.2.2 l c w2.1; have := w2.2.1; omega
theorem m_l123 {i : Nat} (q : Mo h) (hi : i < 6) (h12 : ks.length ≤ 12) (R : Rwi h i ks) (P : StP ks) {lo hi2 : Int} (blo : B32 lo) (w : Int32) (out : Option Nat × Option Nat → Option (Int32 × xH)) (hout : ∀ a, FLI ks lo ks.length a → (if w = 0 then some (i32 lo, h) else if w = (1 : Int32) then bd (fX7_xOf 220 (i32 i) (i32 (iO a.1)) h) (fun w12 g10 => some (w12, g10)) else if w = (2 : Int32) then bd (fX7_xOf 220 (i32 i) (i32 (iO a.2)) h) (fun w8 g6 => some (w8, g6)) else some (i32 hi2, h)) = out a) : fX7_least_l123 FU 220 (i32 i) w (i32 lo) (i32 hi2) (-1) (-1) 0 h = out (fo (sFL ks lo) ks.length 0 (none, none)) ∧ FLI ks lo ks.length (fo (sFL ks lo) ks.length 0 (none, none)) := by
  refine fo_loop (G := fun m (a : Option Nat × Option Nat) k => fX7_least_l123 m 220 (i32 i) w (i32 lo) (i32 hi2) (i32 (iO a.1)) (i32 (iO a.2)) (i32 (k : Nat)) h) (st := sFL ks lo) (out := out) (I := fun k a => FLI ks lo k a ∧ ∀ f, a.1 = some f → f < k) (N := ks.length) ?_ ?_ ks.length 0 FU (none, none) (by omega) (by rw [FU_eq]; omega) ⟨⟨fun j hj => by omega, fun j hj => by omega⟩, fun f e => by cases e⟩ |>.imp id (fun z => z.1)
  · intro m a w2
    rw [← hout a w2.1]
    show fX7_least_b123 _ 220 _ _ _ _ _ _ (i32 ks.length) h = _
    unfold fX7_least_b123
    rw [if_pos q.k220, m_many q hi R, bd_some, if_pos (Int32.le_refl _)]
  · intro m a k hk w2
    have st := w2.1.st
    refine ⟨⟨st, fun f e => ?_⟩, ?_⟩
    · have := st.1; rw [e] at this; exact this.1
    show fX7_least_b123 _ 220 _ _ _ _ _ _ (i32 (k : Int)) h = fX7_least_l123 _ _ _ _ _ _ _ _ _ _
    unfold fX7_least_b123 fX7_least_b157 fX7_least_b163 sFL
    rw [if_pos q.k220, m_many q hi R, bd_some, if_neg (nle32 hk (by omega)), m_yOf q hi h12 R hk, bd_some]
    by_cases c : ky ks k = lo
    · rw [if_pos (by rw [c]), if_pos c]
      obtain ⟨a1, a2⟩ := a
      cases a1 with
      | none => rw [if_pos (show i32 (iO none) = -1 by rfl)]; simp only [lt_def, one32, i32_add, kp1]; rfl
      | some f =>
        have hf := w2.2 f rfl
        rw [if_neg (by
          show ¬ i32 (f : Int) = -1
          rw [m1_32]
          intro z
          have := (i32_eq (a := (f : Int)) (b := -1) ⟨by omega, by omega⟩ ⟨by decide, by decide⟩).mp z
          omega)]; simp only [lt_def, one32, i32_add, kp1]; rfl
    · rw [if_neg (fun z => c ((i32_eq (P.y32 hk) blo).mp z)), if_neg c]; simp only [lt_def, one32, i32_add, kp1]
theorem m_l49 {i : Nat} (q : Mo h) (hi : i < 6) (h12 : ks.length ≤ 12) (R : Rwi h i ks) (P : StP ks) (h0 : 0 < ks.length) (w : Int32) : fX7_least_l49 FU 220 (i32 i) w (i32 (ky ks 0)) (i32 (ky ks 0)) 1 h = fX7_least_l123 FU 220 (i32 i) w (i32 (fo (sLH ks) (ks.length - 1) 1 (ky ks 0, ky ks 0)).1) (i32 (fo (sLH ks) (ks.length - 1) 1 (ky ks 0, ky ks 0)).2) (-1) (-1) 0 h := by
  refine (fo_loop (G := fun m (a : Int × Int) k => fX7_least_l49 m 220 (i32 i) w (i32 a.1) (i32 a.2) (i32 (k : Nat)) h) (st := sLH ks) (out := fun a => fX7_least_l123 FU 220 (i32 i) w (i32 a.1) (i32 a.2) (-1) (-1) 0 h) (I := fun _ a => B32 a.1 ∧ B32 a.2) (N := ks.length) ?_ ?_ (ks.length - 1) 1 FU (ky ks 0, ky ks 0) (by omega) (by rw [FU_eq]; omega) ⟨P.y32 h0, P.y32 h0⟩).1
  · intro m a _
    show fX7_least_b49 _ 220 _ _ _ _ (i32 ks.length) h = _
    unfold fX7_least_b49
    rw [if_pos q.k220, m_many q hi R, bd_some, if_pos (Int32.le_refl _)]
    rfl
  · intro m a k hk ⟨b1, b2⟩
    have by' := P.y32 hk
    refine ⟨⟨by unfold sLH; simp only; split; exact by'; exact b1, by unfold sLH; simp only; split; exact by'; exact b2⟩, ?_⟩
    show fX7_least_b49 _ 220 _ _ _ _ (i32 (k : Int)) h = fX7_least_l49 _ _ _ _ _ _ _ _
    unfold fX7_least_b49 fX7_least_b81 fX7_least_b106 sLH
    rw [if_pos q.k220, m_many q hi R, bd_some, if_neg (nle32 hk (by omega)), m_yOf q hi h12 R hk, bd_some]
    simp only [if_pos q.k220, m_yOf q hi h12 R hk, bd_some, lt_def, one32, i32_add, kp1, i32_le b1 by', i32_le by' b2]
    by_cases c1 : ky ks k < a.1
    · rw [if_neg (by omega), if_pos c1]
      by_cases c2 : a.2 < ky ks k
      · rw [if_neg (by omega), if_pos c2]
      · rw [if_pos (by omega), if_neg c2]
    · rw [if_pos (by omega), if_neg c1]
      by_cases c2 : a.2 < ky ks k
      · rw [if_neg (by omega), if_pos c2]
      · rw [if_pos (by omega), if_neg c2]
theorem Q_least (C : CurOk cur) (a b : Int32) : Ag cur (fX6_least 2 a b) (fX7_least 220 a b) := by
  obtain ⟨i, bi, rfl⟩ := i32_ex a
  obtain ⟨w, bw, rfl⟩ := i32_ex b
  intro h h' I J
  have Bw : B64 w := ⟨by have := bw.1; omega, by have := bw.2; omega⟩
  unfold fX6_least fX7_least
  simp only [if_pos J.1.k220, lt_def, c_isStore bi, m_isStore bi, bd_some, bzd, i64_of32 bw, z64, show (3 : Int64) = i64 3 from rfl, m_in (b := 0) (c := 3) Bw ⟨by decide, by decide⟩ ⟨by decide, by decide⟩]
  by_cases h1 : 0 ≤ i ∧ i ≤ 5
  · simp only [if_pos h1]
    obtain ⟨n, rfl⟩ : ∃ n : Nat, i = n := ⟨i.toNat, by omega⟩
    have hn : n < 6 := by omega
    obtain ⟨⟨h12, P, F⟩, -⟩ := C.1 n hn
    obtain ⟨cap, W⟩ := I.2 n (by omega)
    have co := I.1
    have sl := I.s (show n < 7 by omega)
    have f0 := thr0 h'
    have q := f0.mo J.1
    have R := (J.2.1 n hn).fr f0 MSc_222
    have e0 : (i32 w = (0 : Int32)) ↔ w = 0 := i32_eq bw (b := 0) ⟨by decide, by decide⟩
    have e1 : (i32 w = (1 : Int32)) ↔ w = 1 := i32_eq bw (b := 1) ⟨by decide, by decide⟩
    have e2 : (i32 w = (2 : Int32)) ↔ w = 2 := i32_eq bw (b := 2) ⟨by decide, by decide⟩
    have e3 : (i32 w = (3 : Int32)) ↔ w = 3 := i32_eq bw (b := 3) ⟨by decide, by decide⟩
    have len0 : (i32 ((cur n).length : Int) = (0 : Int32)) ↔ (cur n).length = 0 := by
      rw [show (0 : Int32) = i32 0 from rfl, i32_eq ⟨by omega, by omega⟩ ⟨by decide, by decide⟩]; omega
    simp only [if_pos co.k2, co.r2_0, if_pos co.k3, if_pos sl.1, sl.2, if_pos W.1.1, W.2.1.1, e0, e1, e2, e3, len0, m_many q hn R, bd_some]
    by_cases c0 : (cur n).length = 0
    · rw [if_pos c0, if_pos c0]; exact ⟨_, h, _, rfl, Fr.rf h, rfl, f0⟩
    · rw [if_neg c0, if_neg c0]
      have hp : 0 < (cur n).length := by omega
      by_cases c2 : 0 ≤ w ∧ w ≤ 3
      · rw [if_pos c2, show fX7_yOf 220 (i32 (n : Int)) 0 (sI h' 220 0 0) = some (i32 (ky (cur n) 0), sI h' 220 0 0) from m_yOf q hn h12 R (k := 0) hp, bd_some, m_l49 q hn h12 R P hp]
        have lh := lh_is (cur n) ((cur n).length - 1) 1 (ky (cur n) 0, ky (cur n) 0) 0 (ky (cur n) 0) rfl rfl
        rw [lh]
        obtain ⟨cf, fl⟩ := c_firstLowest W P hp
        obtain ⟨cl, ll⟩ := c_lastLowest W P hp
        have ch := c_highest W P hp
        have i1 := fst_is (cur n) ((cur n).length - 1) 1 0 (by omega) ⟨by omega, fun j hj => by rw [show j = 0 by omega]; omega, fun j hj => by omega⟩
        have i2 := lst_is (cur n) ((cur n).length - 1) 1 0 (by omega) ⟨by omega, fun j hj => by rw [show j = 0 by omega]; omega, fun j h1 h2 => by omega⟩
        rw [show 1 + ((cur n).length - 1) = (cur n).length by omega] at i1 i2
        generalize hf : fo (sFst (cur n)) ((cur n).length - 1) 1 0 = f at *
        generalize hl : fo (sLst (cur n)) ((cur n).length - 1) 1 0 = l at *
        generalize hg : fo (sHi (cur n)) ((cur n).length - 1) 1 (ky (cur n) 0) = g at *
        obtain ⟨E, -⟩ := m_l123 q hn h12 R P (lo := ky (cur n) f) (hi2 := g) (P.y32 fl) (i32 w) (fun _ => some (i32 (if w = 0 then ky (cur n) f else if w = 1 then kx (cur n) f else if w = 2 then kx (cur n) l else g), sI h' 220 0 0)) (by
          intro a wa
          simp only [e0, e1, e2]
          rw [fst_eq wa i1 rfl, lst_eq wa i2 i1 rfl]
          rw [show fX7_xOf 220 (i32 (n : Int)) (i32 (iO (some f))) (sI h' 220 0 0) = some (i32 (kx (cur n) f), sI h' 220 0 0) from m_xOf q hn h12 R fl, show fX7_xOf 220 (i32 (n : Int)) (i32 (iO (some l))) (sI h' 220 0 0) = some (i32 (kx (cur n) l), sI h' 220 0 0) from m_xOf q hn h12 R ll, bd_some, bd_some]
          split
          · rfl
          · split
            · rfl
            · split <;> rfl)
        rw [E]
        refine ⟨_, h, _, ?_, Fr.rf h, rfl, f0⟩
        rcases (show w = 0 ∨ w = 1 ∨ w = 2 ∨ w = 3 by omega) with e | e | e | e
        · simp only [e, Int.reduceEq, reduceIte, cf, bd_some, c_yAt W fl]
        · simp only [e, Int.reduceEq, reduceIte, cf, bd_some, c_xAt W fl]
        · simp only [e, Int.reduceEq, reduceIte, cl, bd_some, c_xAt W ll]
        · simp only [e, Int.reduceEq, reduceIte, ch, bd_some]
      · rw [if_neg c2, if_neg (by omega), if_neg (by omega), if_neg (by omega), if_neg (by omega)]
        exact ⟨_, h, _, rfl, Fr.rf h, rfl, f0⟩
  · simp only [if_neg h1]
    exact ⟨_, h, _, rfl, Fr.rf h, rfl, thr0 h'⟩
end AS
