/-! THE CLASS' SHAPES IN STORE: hasLine, beginsPiece, runOf, riseOf, addShape -/
theorem bzt0 : ¬ bz true = 0 := by decide
theorem Sh.at {h : xH} {s cap : Nat} {ks : List Kn} (W : ShK h s cap ks) {k : Nat} (hk : k < ks.length) : hJ h (hR h s 1) k = i64 (kx ks k) ∧ hJ h (hR h s 3) k = i64 (ky ks k) ∧ hI h (hR h s 5) k = bz (kg ks k) := by
  obtain ⟨q, hq, e, e1, e2, e3⟩ := k_at hk
  have v := W.2.1.2 k q e
  rw [e1, e2, e3]
  exact ⟨v.1, v.2.2.1, v.2.2.2.2⟩
section CS
variable {h : xH} {s cap : Nat} {ks : List Kn}
theorem c_hasLine (W : ShK h s cap ks) (F : StF ks) {k : Nat} (hk : k < ks.length) : fX4_hasLine s (i32 k) h = some (bz (kg ks k), h) := by
  have hc := W.2.2
  have e1 := nat_i k (by omega)
  have x1 : ix (i32 (k : Int)) cap := ix_i (by omega) (by omega) (by omega)
  have v := Sh.at W hk
  unfold fX4_hasLine
  rw [if_pos W.1.1, if_pos W.1.2.2.1.1, W.1.2.2.1.2, if_pos x1, e1, v.2.2, W.2.1.1, one32, i32_add]
  by_cases c : kg ks k = true
  · have f := F.2 k hk c
    rw [if_pos (by rw [c]; rfl), if_neg (fun z => by have := (i32_le ⟨by omega, by omega⟩ ⟨by omega, by omega⟩).mp z; omega), c]
    rfl
  · have c2 : kg ks k = false := by cases hh : kg ks k <;> simp_all
    rw [if_neg (by rw [c2]; decide), c2]
    rfl
theorem c_beginsPiece (W : ShK h s cap ks) (F : StF ks) {k : Nat} (hk : k < ks.length) : fX4_beginsPiece s (i32 k) h = some (bz (spO ks k).isSome, h) := by
  have hc := W.2.2
  unfold fX4_beginsPiece fX4_beginsPiece_b22
  rw [if_pos W.1.1, c_hasLine W F hk, bd_some]
  unfold spO
  by_cases c : kg ks k = true
  · rw [if_neg (by rw [c]; decide), if_pos c]; rfl
  · have c2 : kg ks k = false := by cases hh : kg ks k <;> simp_all
    rw [if_pos (by rw [c2]; rfl), if_neg c]
    by_cases c0 : k = 0
    · rw [if_pos (by rw [c0]; rfl), if_pos (Or.inl c0)]; rfl
    · rw [if_neg (fun z => c0 (by have := (i32_eq (b := 0) ⟨by omega, by omega⟩ ⟨by decide, by decide⟩).mp z; omega)), one32, i32_sub, show (k : Int) - 1 = ((k - 1 : Nat) : Int) by omega, c_hasLine W F (show k - 1 < ks.length by omega), bd_some]
      by_cases c3 : kg ks (k - 1) = true
      · rw [if_neg (by rw [c3]; decide), if_neg (fun z => by rcases z with z | z; exact c0 z; rw [c3] at z; cases z)]; rfl
      · have c4 : kg ks (k - 1) = false := by cases hh : kg ks (k - 1) <;> simp_all
        rw [if_pos (by rw [c4]; rfl), if_pos (Or.inr c4)]; rfl
def krun (ks : List Kn) (k : Nat) : Int := if kg ks k = true then kx ks (k + 1) - kx ks k else 0
def krise (ks : List Kn) (k : Nat) : Int := if kg ks k = true then ky ks (k + 1) - ky ks k else 0
theorem c_runOf (W : ShK h s cap ks) (F : StF ks) {k : Nat} (hk : k < ks.length) : fX4_runOf s (i32 k) h = some (i64 (krun ks k), h) := by
  have hc := W.2.2
  unfold fX4_runOf krun
  rw [if_pos W.1.1, c_hasLine W F hk, bd_some]
  by_cases c : kg ks k = true
  · have f := F.2 k hk c
    have e1 := nat_i k (by omega)
    have e2 := nat_i (k + 1) (by omega)
    have x1 : ix (i32 (k : Int)) cap := ix_i (by omega) (by omega) (by omega)
    have x2 : ix (i32 ((k + 1 : Nat) : Int)) cap := ix_i (by omega) (by omega) (by omega)
    have r1 := W.1.2.1 1 (by decide) (by decide)
    rw [if_neg (by rw [c]; decide), if_pos c, if_pos r1.1, r1.2, one32, i32_add, show (k : Int) + 1 = ((k + 1 : Nat) : Int) from rfl, if_pos x2, if_pos x1, e1, e2, (Sh.at W hk).1, (Sh.at W f.1).1, i64_sub]
  · have c2 : kg ks k = false := by cases hh : kg ks k <;> simp_all
    rw [if_pos (by rw [c2]; rfl), if_neg c]; rfl
theorem c_riseOf (W : ShK h s cap ks) (F : StF ks) {k : Nat} (hk : k < ks.length) : fX4_riseOf s (i32 k) h = some (i64 (krise ks k), h) := by
  have hc := W.2.2
  unfold fX4_riseOf krise
  rw [if_pos W.1.1, c_hasLine W F hk, bd_some]
  by_cases c : kg ks k = true
  · have f := F.2 k hk c
    have e1 := nat_i k (by omega)
    have e2 := nat_i (k + 1) (by omega)
    have x1 : ix (i32 (k : Int)) cap := ix_i (by omega) (by omega) (by omega)
    have x2 : ix (i32 ((k + 1 : Nat) : Int)) cap := ix_i (by omega) (by omega) (by omega)
    have r1 := W.1.2.1 3 (by decide) (by decide)
    rw [if_neg (by rw [c]; decide), if_pos c, if_pos r1.1, r1.2, one32, i32_add, show (k : Int) + 1 = ((k + 1 : Nat) : Int) from rfl, if_pos x2, if_pos x1, e1, e2, (Sh.at W hk).2.1, (Sh.at W f.1).2.1, i64_sub]
  · have c2 : kg ks k = false := by cases hh : kg ks k <;> simp_all
    rw [if_pos (by rw [c2]; rfl), if_neg c]; rfl
theorem sp_run {ks : List Kn} {k : Nat} {sp : Spn} (e : spO ks k = some sp) : sp = (kx ks k, ky ks k, kx ks k + krun ks k, ky ks k + krise ks k) := by
  unfold spO at e
  unfold krun krise
  by_cases c : kg ks k = true
  · rw [if_pos c] at e
    rw [if_pos c, if_pos c, ← Option.some.inj e]
    rw [show kx ks k + (kx ks (k + 1) - kx ks k) = kx ks (k + 1) by omega, show ky ks k + (ky ks (k + 1) - ky ks k) = ky ks (k + 1) by omega]
  · rw [if_neg c] at e
    rw [if_neg c, if_neg c]
    split at e
    · rw [← Option.some.inj e, Int.add_zero, Int.add_zero]
    · cases e
/-- the shape is apart from the row of lines -/
def Apr (h : xH) (s r : Nat) : Prop := ∀ r' k, AX h s r' k → ¬ AY r r' k
theorem Fr.apr {A : Nat → Nat → Prop} {h h' : xH} {s r : Nat} (f : Fr A h h') (a : Apr h s r) : Apr h' s r := by
  have e3 : ∀ a b, hR h' a b = hR h a b := fun a b => by unfold hR; rw [f.2.1]
  intro r' k z
  refine a r' k ?_
  rcases z with z | ⟨j, j1, j2, z⟩
  · exact Or.inl z
  · exact Or.inr ⟨j, j1, j2, by rw [z, e3]⟩
theorem c_as2 {r M : Nat} (hO : StO ks) (hM : M ≤ 60000) : ∀ (d k m : Nat) (h : xH) (ll : List Ln), k + d = ks.length → d < m → Lo h r M → CLl h r ll → ShK h s cap ks → Apr h s r → ll.length + d ≤ M → ∃ h', fX1_addShape_l2 m r s (i32 k) h = some ((), h') ∧ (∀ l0, ll = l0 ++ ((List.range k).filterMap (spO ks)).map lby → CLl h' r (l0 ++ (spL ks).map lby)) ∧ Fr (AY r) h h' := by
  obtain ⟨h12, hP, F⟩ := hO
  intro d
  induction d with
  | zero =>
    intro k m h ll hk hm q w W ap hl
    obtain ⟨m, rfl⟩ : ∃ k, m = k + 1 := ⟨m - 1, by omega⟩
    refine ⟨h, ?_, fun l0 e => ?_, Fr.rf h⟩
    · show fX1_addShape_b2 _ _ _ _ _ = _
      unfold fX1_addShape_b2
      rw [if_pos W.1.1, W.2.1.1, if_pos ((i32_le ⟨by omega, by omega⟩ ⟨by omega, by omega⟩).mpr (by omega))]
    · unfold spL
      rw [show ks.length = k by omega, ← e]; exact w
  | succ d ih =>
    intro k m h ll hk hm q w W ap hl
    obtain ⟨m, rfl⟩ : ∃ k, m = k + 1 := ⟨m - 1, by omega⟩
    have hkl : k < ks.length := by omega
    have hc := W.2.2
    show ∃ h', fX1_addShape_b2 _ _ _ _ _ = _ ∧ _
    unfold fX1_addShape_b2 fX1_addShape_b44
    rw [if_pos W.1.1, W.2.1.1, if_neg (fun z => by have := (i32_le ⟨by omega, by omega⟩ ⟨by omega, by omega⟩).mp z; omega), c_beginsPiece W F hkl, bd_some]
    cases hs : spO ks k with
    | none =>
      rw [if_pos (show bz (none : Option Spn).isSome = 0 from rfl), lt_def, one32, i32_add]
      obtain ⟨h', E, A, B⟩ := ih (k + 1) m h ll (by omega) (by omega) q w W ap (by omega)
      refine ⟨h', E, fun l0 e => A l0 ?_, B⟩
      rw [fm_succ, hs, e]; simp
    | some sp =>
      have esp := sp_run hs
      have b1 := hP.b hkl
      have hr0 : 0 ≤ krun ks k ∧ kx ks k + krun ks k ≤ 5940 := by
        unfold krun
        split
        · rename_i c
          have f := F.2 k hkl c
          have b2 := hP.b f.1
          omega
        · omega
      obtain ⟨h1, E1, A1, B1⟩ := c_addBetween q w (by omega) hM (x := kx ks k) (y := ky ks k) (a := krun ks k) (u := krise ks k) ⟨by omega, by omega⟩ hr0.1 ⟨by omega, by omega⟩
      rw [← esp] at A1
      obtain ⟨h2, E2, A2, B2⟩ := ih (k + 1) m h1 _ (by omega) (by omega) (B1.lo q) A1 (W.fr B1 ap) (B1.apr ap) (by rw [List.length_append]; show ll.length + 1 + d ≤ M; omega)
      refine ⟨h2, ?_, fun l0 e => A2 l0 ?_, B1.tr B2⟩
      · have e1 := nat_i k (by omega)
        have x1 : ix (i32 (k : Int)) cap := ix_i (by omega) (by omega) (by omega)
        have r1 := W.1.2.1 1 (by decide) (by decide)
        have r3 := W.1.2.1 3 (by decide) (by decide)
        rw [if_neg (show ¬ bz (some sp).isSome = 0 from bzt0), if_pos r1.1, r1.2, if_pos x1, if_pos r3.1, r3.2, if_pos x1, c_runOf W F hkl, bd_some, c_riseOf W F hkl, bd_some, if_pos q.1, e1, (Sh.at W hkl).1, (Sh.at W hkl).2.1, E1, bd_some, lt_def, one32, i32_add]
        exact E2
      · rw [fm_succ, hs, e]; simp
theorem c_addShape {r M : Nat} (hO : StO ks) (hM : M ≤ 60000) {ll : List Ln} (q : Lo h r M) (w : CLl h r ll) (W : ShK h s cap ks) (ap : Apr h s r) (hl : ll.length + ks.length ≤ M) : ∃ h', fX1_addShape r s h = some ((), h') ∧ CLl h' r (ll ++ (spL ks).map lby) ∧ Fr (AY r) h h' := by
  obtain ⟨h', E, A, B⟩ := c_as2 (s := s) (cap := cap) hO hM ks.length 0 FU h ll (by omega) (by rw [FU_eq]; have := hO.1; omega) q w W ap (by omega)
  refine ⟨h', ?_, A ll (by simp), B⟩
  unfold fX1_addShape
  rw [lt_def]
  exact E
end CS
