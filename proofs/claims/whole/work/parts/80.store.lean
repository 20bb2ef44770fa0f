/-! A STORE'S KNOTS, ITS SPANS, ITS LINES -/
def kx (ks : List Kn) (k : Nat) : Int := ((ks[k]?).getD (0, 0, false)).1.num
def ky (ks : List Kn) (k : Nat) : Int := ((ks[k]?).getD (0, 0, false)).2.1.num
def kg (ks : List Kn) (k : Nat) : Bool := ((ks[k]?).getD (0, 0, false)).2.2
/-- knots that are places -/
def StP (ks : List Kn) : Prop := ∀ k ∈ ks, k.1.den = 1 ∧ k.2.1.den = 1 ∧ (-5940 ≤ k.1.num ∧ k.1.num ≤ 5940) ∧ (-5940 ≤ k.2.1.num ∧ k.2.1.num ≤ 5940)
/-- x goes on; a line goes to a greater x -/
def StF (ks : List Kn) : Prop := (∀ i j, i ≤ j → j < ks.length → kx ks i ≤ kx ks j) ∧ ∀ k, k < ks.length → kg ks k = true → k + 1 < ks.length ∧ kx ks k < kx ks (k + 1)
def StO (ks : List Kn) : Prop := ks.length ≤ 12 ∧ StP ks ∧ StF ks
theorem k_at {ks : List Kn} {k : Nat} (hk : k < ks.length) : ∃ q ∈ ks, ks[k]? = some q ∧ kx ks k = q.1.num ∧ ky ks k = q.2.1.num ∧ kg ks k = q.2.2 := by
  refine ⟨ks[k], List.getElem_mem _, List.getElem?_eq_getElem hk, ?_, ?_, ?_⟩
  · unfold kx; rw [List.getElem?_eq_getElem hk]; rfl
  · unfold ky; rw [List.getElem?_eq_getElem hk]; rfl
  · unfold kg; rw [List.getElem?_eq_getElem hk]; rfl
theorem StP.b {ks : List Kn} (p : StP ks) {k : Nat} (hk : k < ks.length) : (-5940 ≤ kx ks k ∧ kx ks k ≤ 5940) ∧ (-5940 ≤ ky ks k ∧ ky ks k ≤ 5940) := by
  obtain ⟨q, hq, _, e1, e2, _⟩ := k_at hk
  rw [e1, e2]
  exact (p q hq).2.2
abbrev Spn : Type := Int × Int × Int × Int
def spO (ks : List Kn) (k : Nat) : Option Spn := if kg ks k = true then some (kx ks k, ky ks k, kx ks (k + 1), ky ks (k + 1)) else if k = 0 ∨ kg ks (k - 1) = false then some (kx ks k, ky ks k, kx ks k, ky ks k) else none
def spL (ks : List Kn) : List Spn := (List.range ks.length).filterMap (spO ks)
def lby (s : Spn) : Ln := if s.1 = s.2.2.1 then (s.1, s.2.2.1, s.2.1, 0, 1) else (s.1, s.2.2.1, s.2.1 * (s.2.2.1 - s.1) - (s.2.2.2 - s.2.1) * s.1, s.2.2.2 - s.2.1, s.2.2.1 - s.1)
theorem fm_succ {α : Type} (f : Nat → Option α) (k : Nat) : (List.range (k + 1)).filterMap f = (List.range k).filterMap f ++ (f k).toList := by
  rw [List.range_succ, List.filterMap_append]
  cases h : f k <;> simp [h]
theorem fm_len {α : Type} (f : Nat → Option α) (k : Nat) : ((List.range k).filterMap f).length ≤ k := by
  have := List.length_filterMap_le f (List.range k)
  rw [List.length_range] at this
  exact this
/-! rows of lines, as lists -/
def lnn (ll : List Ln) (k : Nat) : Ln := (ll[k]?).getD (0, 0, 0, 0, 1)
def CLl (h : xH) (r : Nat) (ll : List Ln) : Prop := hI h r 0 = i32 ll.length ∧ ∀ (k : Nat) (l : Ln), ll[k]? = some l → hI h (r + 1) k = i32 (lnF l) ∧ hI h (r + 2) k = i32 (lnT l) ∧ hJ h (r + 3) k = i64 (lnA l) ∧ hJ h (r + 4) k = i64 (lnB l) ∧ hJ h (r + 5) k = i64 (lnC l)
theorem lnn_at {ll : List Ln} {k : Nat} (hk : k < ll.length) : ll[k]? = some (lnn ll k) := by
  unfold lnn
  rw [List.getElem?_eq_getElem hk]; rfl
theorem CLl.c {h : xH} {r : Nat} {ll : List Ln} (w : CLl h r ll) : CLn h r (lnn ll) ll.length := fun k hk => w.2 k _ (lnn_at hk)
def Lnl (h : xH) (ll : List Ln) : Prop := hI h 220 19 = i32 ll.length ∧ ∀ (k : Nat) (l : Ln), ll[k]? = some l → hI h 235 k = i32 (lnF l) ∧ hI h 236 k = i32 (lnT l) ∧ hJ h 237 k = i64 (lnA l) ∧ hJ h 238 k = i64 (lnB l) ∧ hJ h 239 k = i64 (lnC l)
theorem Lnl.l {h : xH} {ll : List Ln} (w : Lnl h ll) : Lns h (lnn ll) ll.length := fun k hk => w.2 k _ (lnn_at hk)
theorem app_at {α : Type} {ll : List α} {l q : α} {k : Nat} (e : (ll ++ [l])[k]? = some q) : (k < ll.length ∧ ll[k]? = some q) ∨ (k = ll.length ∧ q = l) := by
  by_cases hk : k < ll.length
  · rw [List.getElem?_append_left hk] at e; exact Or.inl ⟨hk, e⟩
  · have h1 := (List.getElem?_eq_some_iff.mp e).1
    rw [List.length_append] at h1
    have h2 : [l].length = 1 := rfl
    have h3 : k = ll.length := by omega
    rw [h3, List.getElem?_append_right (Nat.le_refl _), Nat.sub_self] at e
    have : l = q := by simpa using e
    exact Or.inr ⟨h3, this.symm⟩
/-! the class' addLine, addBetween -/
def AY (r r' k : Nat) : Prop := (r' = r ∧ k = 0) ∨ (r + 1 ≤ r' ∧ r' ≤ r + 5)
theorem c_addLine {h : xH} {r M : Nat} {ll : List Ln} (q : Lo h r M) (w : CLl h r ll) (hl : ll.length < M) (hM : M ≤ 60000) {a b A B C : Int} (ha : B32 a) (hb : B32 b) (hab : a ≤ b) (hC : 0 < C) (hC2 : B64 C) : ∃ h', fX1_addLine r (i32 a) (i32 b) (i64 A) (i64 B) (i64 C) h = some ((), h') ∧ CLl h' r (ll ++ [(a, b, A, B, C)]) ∧ Fr (AY r) h h' := by
  have e1 := nat_i ll.length (by omega)
  have x1 : ix (i32 (ll.length : Int)) M := ix_i (by omega) (by omega) (by omega)
  have z0 : B64 0 := ⟨by decide, by decide⟩
  refine ⟨sI (sJ (sJ (sJ (sI (sI h (r + 1) ll.length (i32 a)) (r + 2) ll.length (i32 b)) (r + 3) ll.length (i64 A)) (r + 4) ll.length (i64 B)) (r + 5) ll.length (i64 C)) r 0 (i32 ((ll.length : Int) + 1)), ?_, ⟨?_, fun k l e => ?_⟩, ?_⟩
  · unfold fX1_addLine
    have n1 : ¬ (r = r + 1 ∧ 0 = ll.length) := by omega
    have n2 : ¬ (r = r + 2 ∧ 0 = ll.length) := by omega
    rw [if_pos q.1, q.2.1 1 (by decide) (by decide), if_pos q.2.2.1.1, q.2.2.1.2, ofNat_i, w.1, if_neg (fun z => by have := (i32_le ⟨by omega, by omega⟩ ⟨by omega, by omega⟩).mp z; omega), z64, if_neg (fun z => by have := (lz_le hC2 z0).mp z; omega), if_pos ((i32_le ha hb).mpr hab), if_pos x1]
    simp only [lt_def, kc_sI, kc_sJ, kl_sI, kl_sJ, hR_sI, hR_sJ, hI_sJ, hI_sI, q.2.1 2 (by decide) (by decide), q.2.1 3 (by decide) (by decide), q.2.1 4 (by decide) (by decide), q.2.1 5 (by decide) (by decide), q.2.2.2.1.1, q.2.2.2.1.2, q.2.2.2.2.1.1, q.2.2.2.2.1.2, q.2.2.2.2.2.1.1, q.2.2.2.2.2.1.2, q.2.2.2.2.2.2.1.1, q.2.2.2.2.2.2.1.2, w.1, e1, if_neg n1, if_neg n2, if_pos x1, reduceIte, one32, i32_add]
  · rw [hI_sI, if_pos ⟨rfl, rfl⟩, List.length_append]; rfl
  · simp only [hI_sI, hJ_sI, hI_sJ, hJ_sJ]
    rcases app_at e with ⟨hk, e2⟩ | ⟨hk, e2⟩
    · have v := w.2 k l e2
      rw [if_neg (by omega), if_neg (by omega), if_neg (by omega), if_neg (by omega), if_neg (by omega), if_neg (by omega), if_neg (by omega), if_neg (by omega), if_neg (by omega), if_neg (by omega), if_neg (by omega), if_neg (by omega), if_neg (by omega), if_neg (by omega), if_neg (by omega)]
      exact v
    · subst hk; rw [e2]
      rw [if_neg (by omega), if_neg (by omega), if_pos ⟨trivial, rfl⟩, if_neg (by omega), if_pos ⟨trivial, rfl⟩, if_neg (by omega), if_neg (by omega), if_pos ⟨trivial, rfl⟩, if_neg (by omega), if_pos ⟨trivial, rfl⟩, if_pos ⟨trivial, rfl⟩]
      exact ⟨rfl, rfl, rfl, rfl, rfl⟩
  · have m : ∀ j k, 1 ≤ j → j ≤ 5 → AY r (r + j) k := fun j k a b => Or.inr ⟨by omega, by omega⟩
    exact (((((Fr.I _ (m 1 _ (by decide) (by decide))).tr (Fr.I _ (m 2 _ (by decide) (by decide)))).tr (Fr.J _ (m 3 _ (by decide) (by decide)))).tr (Fr.J _ (m 4 _ (by decide) (by decide)))).tr (Fr.J _ (m 5 _ (by decide) (by decide)))).tr (Fr.I _ (Or.inl ⟨rfl, rfl⟩))
theorem c_addBetween {h : xH} {r M : Nat} {ll : List Ln} (q : Lo h r M) (w : CLl h r ll) (hl : ll.length < M) (hM : M ≤ 60000) {x y a u : Int} (hx : B32 x) (ha : 0 ≤ a) (hxa : B32 (x + a)) : ∃ h', fX1_addBetween r (i64 x) (i64 y) (i64 a) (i64 u) h = some ((), h') ∧ CLl h' r (ll ++ [lby (x, y, x + a, y + u)]) ∧ Fr (AY r) h h' := by
  have z0 : B64 0 := ⟨by decide, by decide⟩
  have Ba : B64 a := ⟨by omega, by have := hx.1; have := hxa.2; omega⟩
  unfold fX1_addBetween
  rw [z64]
  by_cases c : a = 0
  · subst c
    rw [if_pos ((lz_eq z0 z0).mpr rfl), if_pos q.1, i32_of64, o64]
    obtain ⟨h', E, A, F⟩ := c_addLine q w hl hM (a := x) (b := x) (A := y) (B := 0) (C := 1) hx hx (by omega) (by decide) ⟨by decide, by decide⟩
    refine ⟨h', by rw [E, bd_some], ?_, F⟩
    have : lby (x, y, x + 0, y + u) = (x, x, y, 0, 1) := by unfold lby; simp
    rw [this]; exact A
  · rw [if_neg (fun z => c ((lz_eq Ba z0).mp z)), if_pos q.1, i64_add, i32_of64, i32_of64, i64_mul, i64_mul, i64_sub]
    obtain ⟨h', E, A, F⟩ := c_addLine q w hl hM (a := x) (b := x + a) (A := y * a - u * x) (B := u) (C := a) hx hxa (by omega) (by omega) Ba
    refine ⟨h', by rw [E, bd_some], ?_, F⟩
    have : lby (x, y, x + a, y + u) = (x, x + a, y * a - u * x, u, a) := by
      unfold lby
      simp only
      rw [if_neg (by omega), show x + a - x = a by omega, show y + u - y = u by omega]
    rw [this]; exact A
