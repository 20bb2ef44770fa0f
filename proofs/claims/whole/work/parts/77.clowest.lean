/-! THE CLASS' lowestInto: PaperIs -/
def TSt (r : Nat) (h h' : xH) (s cap cap' : Nat) : Prop := Rm h h' cap cap' ∧ Rw h h' s ∧ Gr (fun r' k => AX h s r' k ∨ AL r r' k) h h'
theorem SSt.t {r : Nat} {h h' : xH} {s cap cap' : Nat} (u : SSt h h' s cap cap') : TSt r h h' s cap cap' := ⟨u.1, u.2.1, u.2.2.mono (fun _ _ z => Or.inl z)⟩
theorem Fr.t {r : Nat} {h h' : xH} (u : Fr (AL r) h h') (s cap : Nat) : TSt r h h' s cap cap := ⟨Rm.same u.1 cap, fun j _ _ => Or.inl (by unfold hR; rw [u.2.1]), u.gr.mono (fun _ _ z => Or.inr z)⟩
theorem TSt.tr {r : Nat} {a b c : xH} {s i j k : Nat} (u : TSt r a b s i j) (v : TSt r b c s j k) : TSt r a c s i k := by
  obtain ⟨u1, u2, u3⟩ := u
  obtain ⟨v1, v2, v3⟩ := v
  refine ⟨u1.tr v1, fun q q1 q2 => ?_, u3.1.tr v3.1, fun p q hr hq => ?_⟩
  · have := u3.1.nx
    rcases v2 q q1 q2 with y | y
    · rw [y]; exact u2 q q1 q2
    · right; omega
  · have x := u3.2 p q hr hq
    have y := v3.2 p q (Nat.lt_of_lt_of_le hr u3.1.nx) (fun z => hq (by
      rcases z with z | z
      · exact Or.inl (AX_up u2 hr z)
      · exact Or.inr z))
    exact ⟨y.1.trans x.1, y.2.1.trans x.2.1, y.2.2.trans x.2.2⟩
theorem AL_no {r j k : Nat} (h1 : 1 ≤ j) (h2 : j ≤ 5) : ¬ AL r (r + j) k := by unfold AL; omega
theorem ShK.fr {A : Nat → Nat → Prop} {h h' : xH} {s cap : Nat} {ks : List Kn} (W : ShK h s cap ks) (f : Fr A h h') (hA : ∀ r k, AX h s r k → ¬ A r k) : ShK h' s cap ks := by
  obtain ⟨S, K, a, b⟩ := W
  have e3 : ∀ a b, hR h' a b = hR h a b := fun a b => by unfold hR; rw [f.2.1]
  refine ⟨S.fr f, ⟨?_, fun i k e => ?_⟩, a, b⟩
  · rw [(f.2.2 s 0 (hA s 0 (Or.inl rfl))).1]; exact K.1
  · rw [e3, e3, e3, e3, e3, (f.2.2 _ i (hA _ i (Or.inr ⟨1, by decide, by decide, rfl⟩))).2, (f.2.2 _ i (hA _ i (Or.inr ⟨2, by decide, by decide, rfl⟩))).2, (f.2.2 _ i (hA _ i (Or.inr ⟨3, by decide, by decide, rfl⟩))).2, (f.2.2 _ i (hA _ i (Or.inr ⟨4, by decide, by decide, rfl⟩))).2, (f.2.2 _ i (hA _ i (Or.inr ⟨5, by decide, by decide, rfl⟩))).1]
    exact K.2 i k e
theorem Apt.al {h : xH} {s r : Nat} (a : Apt h s r) : ∀ r' k, AX h s r' k → ¬ AL r r' k := by
  intro r' k z y
  rcases y with y | y
  · have := y.1; subst this; exact a.ax (j := 0) (by decide) k z
  · subst y; exact a.ax (j := 6) (by decide) k z
theorem Apt.fr {A : Nat → Nat → Prop} {h h' : xH} {s r : Nat} (a : Apt h s r) (f : Fr A h h') : Apt h' s r := by
  intro j hj
  refine ⟨(a j hj).1, fun i i1 i2 => ?_⟩
  have e3 : hR h' s i = hR h s i := by unfold hR; rw [f.2.1]
  rw [e3]; exact (a j hj).2 i i1 i2
def evs (L : Nat → Ln) (n : Nat) : List Int := (List.range n).map (fun k => lnF (L k)) ++ (List.range n).map (fun k => lnT (L k))
def muv (L : Nat → Ln) (n : Nat) (x : Int) : Nat := ((evs L n).filter (fun e => decide (x < e))).length
theorem muv_le (L : Nat → Ln) (n : Nat) (x : Int) : muv L n x ≤ 2 * n := by
  have := List.length_filter_le (fun e => decide (x < e)) (evs L n)
  unfold muv
  have e : (evs L n).length = n + n := by unfold evs; simp
  omega
theorem muv_lt {L : Nat → Ln} {n : Nat} {x y : Int} (h : x < y) (hy : y ∈ evs L n) : muv L n y + 1 ≤ muv L n x :=
  flt_lt (fun a _ z => by simp at z ⊢; omega) ⟨y, hy, by simpa using h, by simp⟩
section CI
variable {MA MB MC X NP NQ : Int} {L : Nat → Ln} {n M r s : Nat}
/-- what is known as an x is come to -/
def HeadI (X : Int) (L : Nat → Ln) (n : Nat) (x bl : Int) (k : Nat) : Prop := x = 2147483647 ∨ (muv L n x + k ≤ 2 * n ∧ (x = -2147483648 ∨ (-X ≤ x ∧ x ≤ X)) ∧ Ixn n bl ∧ (0 ≤ bl → -X ≤ x ∧ x ≤ X) ∧ Sd L n true x (oL L x bl))
theorem nx_noev {x N : Int} (bF : ∀ k, k < n → (-X ≤ lnF (L k) ∧ lnF (L k) ≤ X) ∧ (-X ≤ lnT (L k) ∧ lnT (L k) ≤ X) ∧ lnF (L k) ≤ lnT (L k)) (hxN : x < N) (I : NxI L n x N) : NoEv L n x N := by
  refine ⟨by exact_mod_cast hxN, fun k hk => ?_⟩
  have a := I.1 k hk
  have b := bF k hk
  constructor
  · by_cases c : lnF (L k) ≤ x
    · left; exact_mod_cast c
    · right; exact_mod_cast a.1 (by omega)
  · by_cases c : lnT (L k) ≤ x
    · left; exact_mod_cast c
    · right
      have : N ≤ lnT (L k) := by
        by_cases c2 : lnF (L k) ≤ x
        · exact a.2 c2 (by omega)
        · have := a.1 (by omega); omega
      exact_mod_cast this
theorem lw_sd {x : Int} {ls : List Nat} {b : Int} (hls : ∀ o, o ∈ ls ↔ Vs L n x o) (I : LwI L ls x b) : Ixn n b ∧ Sd L n false x (oL L x b) ∧ (b = -1 ∧ ls = [] ∨ ∃ o : Nat, b = o ∧ Wz L n x x o) := by
  have lvv : ∀ k, k < n → lv L false x k → Vs L n x k := by
    intro k hk z
    unfold lv bey at z
    simp at z
    exact ⟨hk, z.1, by have := z.2; grind⟩
  rcases I with ⟨e, el⟩ | ⟨o, e, ho, hm⟩
  · refine ⟨Or.inl e, ?_, Or.inl ⟨e, el⟩⟩
    rw [e, oL_no]
    exact Sd_no (fun k hk z => by have := (hls k).mpr (lvv k hk z); rw [el] at this; cases this)
  · have hv := (hls o).mp ho
    refine ⟨Or.inr ⟨o, e, hv.1⟩, ?_, Or.inr ⟨o, e, hv, fun m hmv => hm m ((hls m).mpr hmv)⟩⟩
    rw [e, oL_at]
    refine LwW_Sd ⟨hv.1, Vs_lv hv, fun m hmn hl => ?_⟩
    rcases hm m ((hls m).mpr (lvv m hmn hl)) with y | y
    · exact Or.inl y
    · exact Or.inr ⟨y.1, (fun z => by cases z), fun _ => y.2⟩
theorem lo_sp {x b : Int} (I : LoI L n x b) : Ixn n b ∧ Sp L n x ((oL L x b).map (fun w => w.1)) := by
  have il : ∀ k, isLone L x k ↔ lone' L x k := by
    intro k
    unfold isLone lone'
    constructor
    · intro z; exact ⟨by exact_mod_cast z.1, by exact_mod_cast z.2⟩
    · intro z; exact ⟨by exact_mod_cast z.1, by exact_mod_cast z.2⟩
  rcases I with ⟨e, h⟩ | ⟨o, e, ho, h1, h2⟩
  · refine ⟨Or.inl e, ?_⟩
    rw [e, oL_no]
    exact fun k hk z => h k hk ((il k).mp z)
  · refine ⟨Or.inr ⟨o, e, ho⟩, ?_⟩
    rw [e, oL_at]
    exact ⟨⟨o, ho, (il o).mpr h1, rfl⟩, fun k hk z => h2 k hk ((il k).mp z)⟩
end CI
