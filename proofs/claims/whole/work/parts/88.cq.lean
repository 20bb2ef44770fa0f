/-! LOOPS, ONCE FOR ALL -/
def fo {σ : Type} (st : Nat → σ → σ) : Nat → Nat → σ → σ
  | 0, _, a => a
  | d + 1, k, a => fo st d (k + 1) (st k a)
theorem fo_loop {σ β : Type} {G : Nat → σ → Nat → β} {st : Nat → σ → σ} {out : σ → β} {I : Nat → σ → Prop} {N : Nat} (hend : ∀ m a, I N a → G (m + 1) a N = out a) (hstep : ∀ m a k, k < N → I k a → I (k + 1) (st k a) ∧ G (m + 1) a k = G m (st k a) (k + 1)) : ∀ (d k m : Nat) (a : σ), k + d = N → d < m → I k a → G m a k = out (fo st d k a) ∧ I N (fo st d k a) := by
  intro d
  induction d with
  | zero =>
    intro k m a hk hm hi
    obtain ⟨m, rfl⟩ : ∃ k, m = k + 1 := ⟨m - 1, by omega⟩
    have e : k = N := by omega
    subst e
    exact ⟨hend m a hi, hi⟩
  | succ d ih =>
    intro k m a hk hm hi
    obtain ⟨m, rfl⟩ : ∃ k, m = k + 1 := ⟨m - 1, by omega⟩
    obtain ⟨h1, h2⟩ := hstep m a k (by omega) hi
    rw [h2]
    exact ih (k + 1) m (st k a) (by omega) (by omega) h1
def ru {σ β : Type} (st : Nat → σ → Sum β σ) (out : σ → β) : Nat → Nat → σ → β
  | 0, _, a => out a
  | d + 1, k, a => match st k a with
    | .inl b => b
    | .inr a' => ru st out d (k + 1) a'
theorem ru_loop {σ β : Type} {G : Nat → σ → Nat → β} {st : Nat → σ → Sum β σ} {out : σ → β} {I : Nat → σ → Prop} {N : Nat} (hend : ∀ m a, I N a → G (m + 1) a N = out a) (hstep : ∀ m a k, k < N → I k a → (∃ b, st k a = .inl b ∧ G (m + 1) a k = b) ∨ (∃ a', st k a = .inr a' ∧ I (k + 1) a' ∧ G (m + 1) a k = G m a' (k + 1))) : ∀ (d k m : Nat) (a : σ), k + d = N → d < m → I k a → G m a k = ru st out d k a := by
  intro d
  induction d with
  | zero =>
    intro k m a hk hm hi
    obtain ⟨m, rfl⟩ : ∃ k, m = k + 1 := ⟨m - 1, by omega⟩
    have e : k = N := by omega
    subst e
    exact hend m a hi
  | succ d ih =>
    intro k m a hk hm hi
    obtain ⟨m, rfl⟩ : ∃ k, m = k + 1 := ⟨m - 1, by omega⟩
    rcases hstep m a k (by omega) hi with ⟨b, e1, e2⟩ | ⟨a', e1, h1, e2⟩
    · rw [e2]; unfold ru; rw [e1]
    · rw [e2]; unfold ru; rw [e1]
      exact ih (k + 1) m a' (by omega) (by omega) h1
theorem nle32 {a b : Nat} (h : b < a) (ha : a ≤ 100000) : ¬ (i32 (a : Int) ≤ i32 (b : Int)) := fun z => by
  have := (i32_le (a := (a : Int)) (b := (b : Int)) ⟨by omega, by omega⟩ ⟨by omega, by omega⟩).mp z
  omega
theorem z32 : (0 : Int32) = i32 0 := rfl
theorem kp1 (k : Nat) : (k : Int) + 1 = ((k + 1 : Nat) : Int) := rfl
theorem km1 {k : Nat} (h : 0 < k) : (k : Int) - 1 = ((k - 1 : Nat) : Int) := by omega
/-! THE CLASS' SHAPES ASKED -/
section CQ
variable {h : xH} {s cap : Nat} {ks : List Kn}
theorem ShK.c1 (W : ShK h s cap ks) : kc h (hR h s 1) = 9 := (W.1.2.1 1 (by decide) (by decide)).1
theorem ShK.c3 (W : ShK h s cap ks) : kc h (hR h s 3) = 9 := (W.1.2.1 3 (by decide) (by decide)).1
theorem ShK.c5 (W : ShK h s cap ks) : kc h (hR h s 5) = 8 := W.1.2.2.1.1
theorem ShK.x (W : ShK h s cap ks) {k : Nat} (hk : k < ks.length) : ix (i32 (k : Int)) (kl h (hR h s 1)) ∧ ix (i32 (k : Int)) (kl h (hR h s 3)) ∧ ix (i32 (k : Int)) (kl h (hR h s 5)) := by
  have hc := W.2.2
  have x1 : ix (i32 (k : Int)) cap := ix_i (by omega) (by omega) (by omega)
  rw [(W.1.2.1 1 (by decide) (by decide)).2, (W.1.2.1 3 (by decide) (by decide)).2, W.1.2.2.1.2]
  exact ⟨x1, x1, x1⟩
theorem ShK.v (W : ShK h s cap ks) {k : Nat} (hk : k < ks.length) : hJ h (hR h s 1) (i32 (k : Int)).toNatClampNeg = i64 (kx ks k) ∧ hJ h (hR h s 3) (i32 (k : Int)).toNatClampNeg = i64 (ky ks k) ∧ hI h (hR h s 5) (i32 (k : Int)).toNatClampNeg = bz (kg ks k) := by
  have hc := W.2.2
  rw [nat_i k (by omega)]
  exact Sh.at W hk
theorem StP.x64 (P : StP ks) {k : Nat} (hk : k < ks.length) : B64 (kx ks k) := by have := P.b hk; exact ⟨by omega, by omega⟩
theorem StP.y64 (P : StP ks) {k : Nat} (hk : k < ks.length) : B64 (ky ks k) := by have := P.b hk; exact ⟨by omega, by omega⟩
theorem StP.x32 (P : StP ks) {k : Nat} (hk : k < ks.length) : B32 (kx ks k) := by have := P.b hk; exact ⟨by omega, by omega⟩
theorem StP.y32 (P : StP ks) {k : Nat} (hk : k < ks.length) : B32 (ky ks k) := by have := P.b hk; exact ⟨by omega, by omega⟩
theorem c_xAt (W : ShK h s cap ks) {k : Nat} (hk : k < ks.length) : fX4_xAt s (i32 (k : Int)) h = some (i32 (kx ks k), h) := by
  unfold fX4_xAt
  rw [if_pos W.1.1, if_pos W.c1, if_pos (W.x hk).1, (W.v hk).1, i32_of64]
theorem c_yAt (W : ShK h s cap ks) {k : Nat} (hk : k < ks.length) : fX4_yAt s (i32 (k : Int)) h = some (i32 (ky ks k), h) := by
  unfold fX4_yAt
  rw [if_pos W.1.1, if_pos W.c3, if_pos (W.x hk).2.1, (W.v hk).2.1, i32_of64]
theorem c_endOfPiece (W : ShK h s cap ks) (F : StF ks) {k : Nat} (hk : k < ks.length) : fX4_endOfPiece s (i32 (k : Int)) h = some (i32 ((if kg ks k = true then k + 1 else k : Nat) : Int), h) := by
  unfold fX4_endOfPiece
  rw [if_pos W.1.1, c_hasLine W F hk, bd_some]
  cases g : kg ks k
  · rw [if_pos bz_f, if_neg (by decide)]
  · rw [if_neg bzt0, if_pos rfl, one32, i32_add]; rfl
/-! parts, jumps, width -/
def sParts (ks : List Kn) (k : Nat) (a : Int) : Int := if kg ks k = true then a else a + 1
def nParts (ks : List Kn) : Int := fo (sParts ks) ks.length 0 0
theorem c_parts (W : ShK h s cap ks) : fX4_parts s h = some (i32 (nParts ks), h) := by
  have hc := W.2.2
  unfold fX4_parts
  rw [lt_def, lt_def]
  refine (fo_loop (G := fun m (a : Int) k => fX4_parts_l4 m s (i32 a) (i32 (k : Nat)) h) (st := sParts ks) (out := fun a => some (i32 a, h)) (I := fun _ _ => True) (N := ks.length) ?_ ?_ ks.length 0 FU 0 (by omega) (by rw [FU_eq]; omega) trivial).1
  · intro m a _
    show fX4_parts_b4 _ s (i32 a) (i32 ks.length) h = _
    unfold fX4_parts_b4
    rw [if_pos W.1.1, W.2.1.1, if_pos (Int32.le_refl _)]
  · intro m a k hk _
    refine ⟨trivial, ?_⟩
    show fX4_parts_b4 _ s (i32 a) (i32 (k : Int)) h = _
    unfold fX4_parts_b4 fX4_parts_b24 sParts
    rw [if_pos W.1.1, W.2.1.1, if_neg (nle32 hk (by omega)), if_pos W.c5, if_pos (W.x hk).2.2, (W.v hk).2.2]
    cases g : kg ks k
    · rw [if_pos bz_f, if_neg (by decide)]; simp only [lt_def, one32, i32_add]; rfl
    · rw [if_neg bzt0, if_pos rfl]; simp only [lt_def, one32, i32_add]; rfl
def sJumps (ks : List Kn) (k : Nat) (a : Int) : Int := if kg ks (k - 1) = false ∧ kx ks k = kx ks (k - 1) then a + 1 else a
def nJumps (ks : List Kn) : Int := fo (sJumps ks) (ks.length - 1) 1 0
theorem c_jumps (W : ShK h s cap ks) (P : StP ks) : fX4_jumps s h = some (i32 (nJumps ks), h) := by
  have hc := W.2.2
  unfold fX4_jumps
  rw [lt_def, lt_def]
  by_cases h0 : ks.length = 0
  · have e : nJumps ks = 0 := by unfold nJumps; rw [h0]; rfl
    rw [e]
    show fX4_jumps_b4 _ s _ _ h = _
    unfold fX4_jumps_b4
    rw [if_pos W.1.1, W.2.1.1, h0, if_pos (by decide)]; rfl
  refine (fo_loop (G := fun m (a : Int) k => fX4_jumps_l4 m s (i32 a) (i32 (k : Nat)) h) (st := sJumps ks) (out := fun a => some (i32 a, h)) (I := fun k _ => 0 < k) (N := ks.length) ?_ ?_ (ks.length - 1) 1 FU 0 (by omega) (by rw [FU_eq]; omega) (by decide)).1
  · intro m a _
    show fX4_jumps_b4 _ s (i32 a) (i32 ks.length) h = _
    unfold fX4_jumps_b4
    rw [if_pos W.1.1, W.2.1.1, if_pos (Int32.le_refl _)]
  · intro m a k hk hk0
    refine ⟨by omega, ?_⟩
    have hk1 : k - 1 < ks.length := by omega
    show fX4_jumps_b4 _ s (i32 a) (i32 (k : Int)) h = fX4_jumps_l4 _ _ _ _ _
    unfold fX4_jumps_b4 fX4_jumps_b44 sJumps
    simp only [one32, i32_sub, km1 hk0]
    rw [if_pos W.1.1, W.2.1.1, if_neg (nle32 hk (by omega)), if_pos W.c5, if_pos (W.x hk1).2.2, (W.v hk1).2.2]
    cases g : kg ks (k - 1)
    · rw [if_pos bz_f, if_pos W.c1, if_pos (W.x hk).1, if_pos (W.x hk1).1, (W.v hk).1, (W.v hk1).1]
      by_cases c : kx ks k = kx ks (k - 1)
      · rw [if_pos ((lz_eq (P.x64 hk) (P.x64 hk1)).mpr c), if_pos ⟨rfl, c⟩]; simp only [lt_def, i32_add, kp1]
      · rw [if_neg (fun z => c ((lz_eq (P.x64 hk) (P.x64 hk1)).mp z)), if_neg (fun z => c z.2)]; simp only [lt_def, i32_add, kp1]
    · rw [if_neg bzt0, if_neg (fun z => by cases z.1)]; simp only [lt_def, i32_add, kp1]
def sWidth (ks : List Kn) (k : Nat) (a : Int) : Int := a + krun ks k
def nWidth (ks : List Kn) : Int := fo (sWidth ks) ks.length 0 0
theorem c_width (W : ShK h s cap ks) (F : StF ks) : fX4_width s h = some (i32 (nWidth ks), h) := by
  have hc := W.2.2
  unfold fX4_width
  rw [lt_def, lt_def]
  refine (fo_loop (G := fun m (a : Int) k => fX4_width_l4 m s (i64 a) (i32 (k : Nat)) h) (st := sWidth ks) (out := fun a => some (i32 a, h)) (I := fun _ _ => True) (N := ks.length) ?_ ?_ ks.length 0 FU 0 (by omega) (by rw [FU_eq]; omega) trivial).1
  · intro m a _
    show fX4_width_b4 _ s (i64 a) (i32 ks.length) h = _
    unfold fX4_width_b4
    rw [if_pos W.1.1, W.2.1.1, if_pos (Int32.le_refl _), i32_of64]
  · intro m a k hk _
    refine ⟨trivial, ?_⟩
    show fX4_width_b4 _ s (i64 a) (i32 (k : Int)) h = fX4_width_l4 _ _ _ _ _
    unfold fX4_width_b4 sWidth
    rw [if_pos W.1.1, W.2.1.1, if_neg (nle32 hk (by omega)), c_runOf W F hk, bd_some]
    simp only [lt_def, one32, i32_add, i64_add, kp1]
/-! how often slopes fall -/
def sFalls (ks : List Kn) (b : Bool) (k : Nat) (a : Int × Option Nat) : Int × Option Nat := if kg ks k = true then (match a.2 with
  | none => a.1
  | some l => if krise ks k * krun ks l < krise ks l * krun ks k ∨ (b = false ∧ krise ks k * krun ks l = krise ks l * krun ks k) then a.1 + 1 else a.1, some k) else a
def nFalls (ks : List Kn) (b : Bool) : Int := (fo (sFalls ks b) ks.length 0 (0, none)).1
def iO (o : Option Nat) : Int := match o with
  | none => -1
  | some k => k
def FoI (ks : List Kn) (k : Nat) (a : Int × Option Nat) : Prop := ∀ l, a.2 = some l → l < k ∧ l < ks.length ∧ kg ks l = true
theorem FoI.st {b : Bool} {k : Nat} {a : Int × Option Nat} (hk : k < ks.length) (w : FoI ks k a) : FoI ks (k + 1) (sFalls ks b k a) := by
  intro l e
  unfold sFalls at e
  split at e
  · rename_i g
    have e : k = l := Option.some.inj e
    exact ⟨by omega, by omega, by rw [← e]; exact g⟩
  · have := w l e; exact ⟨by omega, this.2⟩
theorem krr (P : StP ks) (F : StF ks) {k l : Nat} (hk : k < ks.length) (hl : l < ks.length) : B64 (krise ks k * krun ks l) := by
  have b1 : -11880 ≤ krise ks k ∧ krise ks k ≤ 11880 := by
    unfold krise; split
    · rename_i g; have := P.b hk; have := P.b (F.2 k hk g).1; omega
    · omega
  have b2 : 0 ≤ krun ks l ∧ krun ks l ≤ 11880 := by
    unfold krun; split
    · rename_i g; have := P.b hl; have := P.b (F.2 l hl g).1; have := (F.2 l hl g).2; omega
    · omega
  have h1 : krise ks k * krun ks l ≤ 11880 * 11880 := by
    have := Int.mul_le_mul (a := krise ks k) (b := krun ks l) (c := 11880) (d := 11880) (by omega) (by omega) (by omega) (by omega)
    exact this
  have h2 : -(11880 * 11880) ≤ krise ks k * krun ks l := by
    have := Int.mul_le_mul (a := -krise ks k) (b := krun ks l) (c := 11880) (d := 11880) (by omega) (by omega) (by omega) (by omega)
    rw [Int.neg_mul] at this
    omega
  exact ⟨by omega, by omega⟩
theorem c_slopeFalls (W : ShK h s cap ks) (P : StP ks) (F : StF ks) : fX4_slopeFalls s h = some (i32 (nFalls ks true), h) := by
  have hc := W.2.2
  unfold fX4_slopeFalls
  rw [lt_def, lt_def, lt_def]
  refine (fo_loop (G := fun m (a : Int × Option Nat) k => fX4_slopeFalls_l6 m s (i32 a.1) (i32 (iO a.2)) (i32 (k : Nat)) h) (st := sFalls ks true) (out := fun a => some (i32 a.1, h)) (I := FoI ks) (N := ks.length) ?_ ?_ ks.length 0 FU (0, none) (by omega) (by rw [FU_eq]; omega) (fun l e => by cases e)).1
  · intro m a _
    show fX4_slopeFalls_b6 _ s _ _ (i32 ks.length) h = _
    unfold fX4_slopeFalls_b6
    rw [if_pos W.1.1, W.2.1.1, if_pos (Int32.le_refl _)]
  · intro m a k hk w
    refine ⟨w.st hk, ?_⟩
    show fX4_slopeFalls_b6 _ s (i32 a.1) (i32 (iO a.2)) (i32 (k : Int)) h = fX4_slopeFalls_l6 _ _ _ _ _ _
    unfold fX4_slopeFalls_b6 fX4_slopeFalls_b58 fX4_slopeFalls_b60 sFalls
    rw [if_pos W.1.1, W.2.1.1, if_neg (nle32 hk (by omega)), c_hasLine W F hk, bd_some]
    cases g : kg ks k
    · rw [if_pos bz_f, if_neg (by decide)]; simp only [lt_def, one32, i32_add, kp1]
    · rw [if_neg bzt0, if_pos rfl]
      obtain ⟨a1, a2⟩ := a
      cases a2 with
      | none =>
        rw [if_pos (by show i32 (-1) < 0; decide)]; simp only [lt_def, one32, i32_add, kp1, iO]
      | some l =>
        have hl := w l rfl
        rw [if_neg (by
          show ¬ i32 (l : Int) < 0
          rw [show (0 : Int32) = i32 0 from rfl]
          intro z
          have := (i32_lt (a := (l : Int)) (b := 0) ⟨by omega, by omega⟩ ⟨by decide, by decide⟩).mp z
          omega)]
        have e2 : i32 (iO (some l)) = i32 (l : Int) := rfl
        simp only [e2, c_riseOf W F hk, c_runOf W F hk, c_riseOf W F hl.2.1, c_runOf W F hl.2.1, bd_some, i64_mul]
        by_cases c : krise ks k * krun ks l < krise ks l * krun ks k
        · rw [if_neg (fun z => by have := (lz_ge (krr P F hk hl.2.1) (krr P F hl.2.1 hk)).mp z; omega), if_pos (Or.inl c)]; simp only [lt_def, one32, i32_add, kp1, iO]
        · rw [if_pos ((lz_ge (krr P F hk hl.2.1) (krr P F hl.2.1 hk)).mpr (by omega)), if_neg (fun z => by rcases z with z | z; exact c z; cases z.1)]; simp only [lt_def, one32, i32_add, kp1, iO]
end CQ
