/-! THE CLASS' addKnot, whole; what is made, counted -/
def Rm (h h' : xH) (cap cap' : Nat) : Prop := cap ≤ cap' ∧ cnt h' + 5 * cap ≤ cnt h + 5 * cap' ∧ siz h' + 10 * cap ≤ siz h + 10 * cap'
theorem Rm.rf (h : xH) (cap : Nat) : Rm h h cap cap := ⟨by omega, by omega, by omega⟩
theorem Rm.tr {a b c : xH} {i j k : Nat} (u : Rm a b i j) (v : Rm b c j k) : Rm a c i k := by
  obtain ⟨u1, u2, u3⟩ := u
  obtain ⟨v1, v2, v3⟩ := v
  exact ⟨by omega, by omega, by omega⟩
theorem Rm.same {h h' : xH} (e : h'.1 = h.1) (cap : Nat) : Rm h h' cap cap := by
  have a : cnt h' = cnt h := by unfold cnt; rw [e]
  have b : siz h' = siz h := by unfold siz; rw [e]
  exact ⟨by omega, by omega, by omega⟩
def Rw (h h' : xH) (s : Nat) : Prop := ∀ j, 1 ≤ j → j ≤ 5 → hR h' s j = hR h s j ∨ hnx h ≤ hR h' s j
/-- a step that changes one shape alone -/
def SSt (h h' : xH) (s cap cap' : Nat) : Prop := Rm h h' cap cap' ∧ Rw h h' s ∧ Gr (AX h s) h h'
theorem SSt.rf (h : xH) (s cap : Nat) : SSt h h s cap cap := ⟨Rm.rf h cap, fun _ _ _ => Or.inl rfl, Gr.rf h⟩
theorem AX_up {h h1 : xH} {s : Nat} (l : Rw h h1 s) {r k : Nat} (hr : r < hnx h) (z : AX h1 s r k) : AX h s r k := by
  rcases z with z | ⟨j, j1, j2, z⟩
  · exact Or.inl z
  · rcases l j j1 j2 with y | y
    · exact Or.inr ⟨j, j1, j2, by rw [z, y]⟩
    · omega
theorem SSt.tr {a b c : xH} {s i j k : Nat} (u : SSt a b s i j) (v : SSt b c s j k) : SSt a c s i k := by
  obtain ⟨u1, u2, u3⟩ := u
  obtain ⟨v1, v2, v3⟩ := v
  refine ⟨u1.tr v1, fun q q1 q2 => ?_, u3.1.tr v3.1, fun r q hr hq => ?_⟩
  · have := u3.1.nx
    rcases v2 q q1 q2 with y | y
    · rw [y]; exact u2 q q1 q2
    · right; omega
  · have x := u3.2 r q hr hq
    have y := v3.2 r q (Nat.lt_of_lt_of_le hr u3.1.nx) (fun z => hq (AX_up u2 hr z))
    exact ⟨y.1.trans x.1, y.2.1.trans x.2.1, y.2.2.trans x.2.2⟩
theorem room_rm {h h' : xH} {cap cap' need : Nat} (e : cap' = (if cap < need then (if need < 2 * cap then 2 * cap else need) else cap)) (z : h'.1 = h.1 ++ (if cap < need then [(9, cap'), (9, cap'), (9, cap'), (9, cap'), (8, cap')] else [])) : Rm h h' cap cap' := by
  by_cases c : cap < need
  · rw [if_pos c] at e z
    have hb : 2 * cap ≤ cap' ∧ cap < cap' := by rw [e]; split <;> omega
    have a : cnt h' = cnt h + 5 := by unfold cnt; rw [z, List.length_append]; rfl
    have b : siz h' = siz h + 5 * cap' := by
      unfold siz
      rw [z, List.map_append, List.sum_append]
      simp [ksz]
      omega
    exact ⟨by omega, by omega, by omega⟩
  · rw [if_neg c] at e z
    rw [e]
    exact Rm.same (by rw [z, List.append_nil]) cap
/-- a shape with its knots -/
def ShK (h : xH) (s cap : Nat) (ks : List Kn) : Prop := Sh h s cap ∧ Ks h s ks ∧ ks.length ≤ cap ∧ cap ≤ 3200
theorem c_addKnot {h : xH} {s cap : Nat} {ks : List Kn} (W : ShK h s cap ks) (hl : ks.length < 1600) {a b c d : Int} (qa : Q a) (qb : Q b) (hb : 0 < b) (qc : Q c) (qd : Q d) (hd : 0 < d) (g : Bool) : ∃ h' cap', fX4_addKnot s (i64 a) (i64 b) (i64 c) (i64 d) (bz g) h = some ((), h') ∧ ShK h' s cap' (ks ++ [((a : Rat) / (b : Rat), (c : Rat) / (d : Rat), g)]) ∧ SSt h h' s cap cap' := by
  obtain ⟨S, K, hc, hcap⟩ := W
  obtain ⟨h1, cap', E1, S1, K1, C1, C2, R1, G1, Z1⟩ := c_makeRoom (need := ks.length + 1) S K hc (by omega) (by omega)
  have hcap' : cap' ≤ 3200 := by rw [C2]; split <;> (try split) <;> omega
  have z0 : B64 0 := ⟨by decide, by decide⟩
  obtain ⟨B1, N1⟩ := gcd_nz qa qb hb
  obtain ⟨B2, N2⟩ := gcd_nz qc qd hd
  have t1 := low_pos (a := a) hb
  have t2 := low_pos (a := c) hd
  have e1 := nat_i ks.length (by omega)
  have x1 : ix (i32 (ks.length : Int)) cap' := ix_i (by omega) (by omega) (by omega)
  have r1 := S1.2.1 1 (by decide) (by decide)
  have r2 := S1.2.1 2 (by decide) (by decide)
  have r3 := S1.2.1 3 (by decide) (by decide)
  have r4 := S1.2.1 4 (by decide) (by decide)
  have r5 := S1.2.2.1
  have d12 := S1.2.2.2 1 2 (by decide) (by decide) (by decide)
  have d13 := S1.2.2.2 1 3 (by decide) (by decide) (by decide)
  have d14 := S1.2.2.2 1 4 (by decide) (by decide) (by decide)
  have d23 := S1.2.2.2 2 3 (by decide) (by decide) (by decide)
  have d24 := S1.2.2.2 2 4 (by decide) (by decide) (by decide)
  have d34 := S1.2.2.2 3 4 (by decide) (by decide) (by decide)
  have n5 : hR h1 s 5 ≠ s := fun z => by have := r5.1; rw [z, S1.1] at this; omega
  have n1 : hR h1 s 1 ≠ s := fun z => by have := r1.1; rw [z, S1.1] at this; omega
  obtain ⟨g4, eg⟩ : ∃ g4, g4 = sJ (sJ (sJ (sJ h1 (hR h1 s 1) ks.length (i64 a / i64 (Int.gcd a b : Int))) (hR h1 s 2) ks.length (i64 b / i64 (Int.gcd a b : Int))) (hR h1 s 3) ks.length (i64 c / i64 (Int.gcd c d : Int))) (hR h1 s 4) ks.length (i64 d / i64 (Int.gcd c d : Int)) := ⟨_, rfl⟩
  have fg : Fr (fun _ _ => True) h1 g4 := by rw [eg]; exact ⟨rfl, rfl, fun _ _ q => absurd trivial q⟩
  have Sg := S1.fr fg
  have cg : hI g4 s 0 = i32 (ks.length : Int) := by rw [eg]; exact K1.1
  have rg : ∀ j, hR g4 s j = hR h1 s j := fun j => by rw [eg]; rfl
  have fin := fun v => c_b113 Sg (show ks.length < cap' by omega) (by omega) cg v
  rw [rg 5] at fin
  refine ⟨sI (sI g4 (hR h1 s 5) ks.length (bz g)) s 0 (i32 ((ks.length : Int) + 1)), cap', ?_, ⟨?_, ?_, ?_, hcap'⟩, ?_⟩
  · unfold fX4_addKnot
    rw [c_cd qa qb, bd_some, c_cd qc qd, bd_some, z64, if_neg (fun z => N1 ((i64_eq B1 z0).mpr ((lz_eq B1 z0).mp z))), if_neg (fun z => N2 ((i64_eq B2 z0).mpr ((lz_eq B2 z0).mp z))), if_pos S.1, K.1, one32, i32_add, show (ks.length : Int) + 1 = ((ks.length + 1 : Nat) : Int) from rfl, E1, bd_some]
    rw [z64] at N1 N2
    simp only [lt_def, kc_sJ, kl_sJ, hR_sJ, hI_sJ, K1.1, r1.1, r1.2, r2.1, r2.2, r3.1, r3.2, r4.1, r4.2, if_pos N1, if_pos N2, if_pos x1, e1, reduceIte]
    rw [← eg]
    cases g
    · rw [if_pos (show bz false = 0 from rfl)]; exact fin 0
    · rw [if_neg (show ¬ bz true = 0 by decide), ← one32, fin 1]; rfl
  · exact S1.fr (A := fun _ _ => True) (by rw [eg]; exact ⟨rfl, rfl, fun _ _ q => absurd trivial q⟩)
  · have hh : ∀ j, hR (sI (sI g4 (hR h1 s 5) ks.length (bz g)) s 0 (i32 ((ks.length : Int) + 1))) s j = hR h1 s j := fun j => by rw [eg]; rfl
    refine ⟨by rw [hI_sI, if_pos ⟨rfl, rfl⟩, List.length_append]; rfl, fun i k e => ?_⟩
    rw [hh, hh, hh, hh, hh]
    simp only [hJ_sI]
    by_cases hi : i < ks.length
    · rw [List.getElem?_append_left hi] at e
      have v := K1.2 i k e
      rw [hI_sI, if_neg (fun z => n5 z.1), hI_sI, if_neg (fun z => by omega)]
      rw [eg]
      simp only [hJ_sJ, hI_sJ]
      rw [if_neg (fun z => by omega), if_neg (fun z => by omega), if_neg (fun z => by omega), if_neg (fun z => by omega)]
      rw [if_neg (fun z => by omega), if_neg (fun z => by omega), if_neg (fun z => by omega), if_neg (fun z => by omega)]
      rw [if_neg (fun z => by omega), if_neg (fun z => by omega), if_neg (fun z => by omega), if_neg (fun z => by omega)]
      rw [if_neg (fun z => by omega), if_neg (fun z => by omega), if_neg (fun z => by omega), if_neg (fun z => by omega)]
      exact v
    · have hi2 : i = ks.length := by
        have := (List.getElem?_eq_some_iff.mp e).1
        rw [List.length_append] at this
        have e' : [((a : Rat) / (b : Rat), (c : Rat) / (d : Rat), g)].length = 1 := rfl
        omega
      rw [hi2, List.getElem?_append_right (Nat.le_refl _), Nat.sub_self] at e
      have ek : ((a : Rat) / (b : Rat), (c : Rat) / (d : Rat), g) = k := by simpa using e
      rw [hi2, ← ek, hI_sI, if_neg (fun z => n5 z.1), hI_sI, if_pos ⟨rfl, rfl⟩, eg]
      simp only [hJ_sJ]
      rw [if_neg (fun z => d14 z.1), if_neg (fun z => d13 z.1), if_neg (fun z => d12 z.1), if_pos ⟨trivial, trivial⟩]
      rw [if_neg (fun z => d24 z.1), if_neg (fun z => d23 z.1), if_pos ⟨trivial, trivial⟩]
      rw [if_neg (fun z => d34 z.1), if_pos ⟨trivial, trivial⟩, if_pos ⟨trivial, trivial⟩]
      rw [i64_div qa.b B1, i64_div qb.b B1, i64_div qc.b B2, i64_div qd.b B2, t1.1, t1.2, t2.1, t2.2]
      exact ⟨rfl, rfl, rfl, rfl, trivial⟩
  · rw [List.length_append]; show ks.length + 1 ≤ cap'; omega
  · have hk : (sI (sI g4 (hR h1 s 5) ks.length (bz g)) s 0 (i32 ((ks.length : Int) + 1))).1 = h1.1 := by rw [eg]; rfl
    refine ⟨room_rm C2 (by rw [hk]; exact Z1), fun j j1 j2 => ?_, ?_⟩
    · have := R1 j j1 j2
      rw [eg]; exact this
    · have f : Fr (AX h1 s) h1 (sI (sI g4 (hR h1 s 5) ks.length (bz g)) s 0 (i32 ((ks.length : Int) + 1))) := by
        rw [eg]
        exact (((((Fr.J _ (Or.inr ⟨1, by decide, by decide, rfl⟩)).tr (Fr.J _ (Or.inr ⟨2, by decide, by decide, rfl⟩))).tr (Fr.J _ (Or.inr ⟨3, by decide, by decide, rfl⟩))).tr (Fr.J _ (Or.inr ⟨4, by decide, by decide, rfl⟩))).tr (Fr.I _ (Or.inr ⟨5, by decide, by decide, rfl⟩))).tr (Fr.I _ (Or.inl rfl))
      have G2 := f.gr
      refine ⟨G1.1.tr G2.1, fun r k hr q => ?_⟩
      have x := G1.2 r k hr (fun z => q (Or.inl z.1))
      have y := G2.2 r k (Nat.lt_of_lt_of_le hr G1.1.nx) (fun z => q (AX_up R1 hr z))
      exact ⟨y.1.trans x.1, y.2.1.trans x.2.1, y.2.2.trans x.2.2⟩
