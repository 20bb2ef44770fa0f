/-! CALLS: image (reference), back -/
section BK
variable {h : xH} {S : Ast}
theorem m_image_ok {k : Nat} (hk : k < 2) (K : AOk S) (M : MSt h S) : ∃ g, fX7_image 220 (i32 (k : Int)) h = some (i32 (skD (aC S) 0 6), g) ∧ MSt g (imA S k) ∧ Fr In220 h g := by
  obtain ⟨m1, m2, m3, m4, m5⟩ := M
  have xk : ix (i32 (k : Int)) 2 := ix_i (by omega) (by omega) (by decide)
  have nk := nat_i k (by omega)
  have q := m1.1
  have f0 : Fr (fun r c => r = 220 ∧ c = 0) h (sI h 220 0 0) := Fr.I _ ⟨rfl, rfl⟩
  have mc := MCo.fr ⟨m1, m2, m3⟩ K f0 (fun r c p q => by omega) (by omega)
  have q0 := mc.1.1
  obtain ⟨h1, E1, Sn, F1⟩ := m_lay (K := 2) hk q0 q0.ly2 mc.1 K.1.len.1 K.1.len.2
  have q1 := F1.mo q0
  have F2 : Fr (fun r c => r = 234 ∧ c = k) h1 (sI h1 234 k 1) := Fr.I _ ⟨rfl, rfl⟩
  have J2 := (mc.1.fr2 F1 (fun r c a b => by unfold ALy; omega) (by unfold ALy; omega)).fr2 F2 (fun r c a b => by omega) (by omega)
  have F3 : Fr (fun r c => r = 220 ∧ c = 1) (sI h1 234 k 1) (sI (sI h1 234 k 1) 220 1 0) := Fr.I _ ⟨rfl, rfl⟩
  have Ls : ∀ u ∈ snL (aC S) (aU S), LenOk u.2 := fun u hu => (K.2.1 u hu).len
  have U3 := ((mc.2.1.fr Ls F1 (fun r c a b => by unfold ALy; omega) (by unfold ALy; omega)).fr Ls F2 (fun r c a b => by omega) (by omega)).fr Ls F3 (fun r c a b => by omega) (by omega)
  have sm : ∀ r c, (r = 221 ∨ r = 246 ∨ (r = 234 ∧ c ≠ k) ∨ (r = 220 ∧ (c = 36 ∨ c = 37))) → hI (sI (sI h1 234 k 1) 220 1 0) r c = hI h r c := fun r c z => by
    rw [(F3.2.2 r c (by omega)).1, (F2.2.2 r c (by omega)).1, (F1.2.2 r c (by unfold ALy; omega)).1, (f0.2.2 r c (by omega)).1]
  refine ⟨sI (sI h1 234 k 1) 220 1 0, ?_, ⟨J2.fr2 F3 (fun r c a b => by omega) (by omega), U3, fun p hp => ?_, ?_, fun j hj => by rw [sm 221 j (by omega)]; exact m5.1 j hj, by rw [sm 220 36 (by omega)]; exact m5.2.1, by rw [sm 220 37 (by omega)]; exact m5.2.2.1, fun j hj => by rw [sm 246 j (by omega)]; exact m5.2.2.2 j hj⟩, ((f0.mono (fun r c z => by unfold In220; omega)).tr (F1.mono (fun r c z => by unfold ALy at z; unfold In220; omega))).tr ((F2.mono (fun r c z => by unfold In220; omega)).tr (F3.mono (fun r c z => by unfold In220; omega)))⟩
  · have bi : B32 (k : Int) := ⟨by omega, by omega⟩
    unfold fX7_image
    rw [if_pos q.k220, lt_def, i64_of32 bi, z64, o64, m_in (b := 0) (c := 1) ⟨by omega, by omega⟩ ⟨by decide, by decide⟩ ⟨by decide, by decide⟩, bd_some, decide_eq_true (by omega), if_neg bzt0, q0.r13, q0.r14, q0.r15, q0.r16, E1, bd_some, q1.r17, if_pos q1.k234, q1.l234, if_pos xk]
    simp only [nk]
    rw [lt_def, m_knS J2, bd_some, m_tell J2.1, bd_some]
  · by_cases c : p = k
    · have eu : aI (imA S k) p = some (aC S) := by show upA (aI S) k (some (aC S)) p = _; unfold upA; rw [if_pos c]
      rw [eu]
      refine ⟨by rw [c, hI_sI, if_neg (by omega), hI_sI, if_pos ⟨rfl, rfl⟩]; rfl, fun f ef => ?_⟩
      rw [← Option.some.inj ef, c]
      exact (Sn.img K.1.len F2 (fun r c a b => by omega)).img K.1.len F3 (fun r c a b => by omega)
    · have eu : aI (imA S k) p = aI S p := by show upA (aI S) k (some (aC S)) p = _; unfold upA; rw [if_neg c]
      rw [eu]
      refine ⟨by rw [sm 234 p (by omega)]; exact (m3 p hp).1, fun f ef => ?_⟩
      have L := (K.2.2.1 p f hp ef).len
      exact ((((mc.2.2 p hp).2 f ef).fr L F1 (fun c z => by unfold ALy at z ⊢; omega) (by unfold ALy; omega) (fun c a b => by unfold ALy; omega) (fun c a b => by unfold ALy; omega)).img L F2 (fun r c a b => by omega)).img L F3 (fun r c a b => by omega)
  · rw [hI_sI, if_pos ⟨rfl, rfl⟩]; rfl
theorem AOk.im {k : Nat} (K : AOk S) : AOk (imA S k) := by
  refine ⟨K.1, K.2.1, fun p f hp ef => ?_, K.2.2.2⟩
  have ef : upA (aI S) k (some (aC S)) p = some f := ef
  unfold upA at ef
  by_cases c : p = k
  · rw [if_pos c] at ef
    rw [← Option.some.inj ef]; exact K.1
  · rw [if_neg c] at ef
    exact K.2.2.1 p f hp ef
theorem Cal_image (a : Int32) : Cal (fX6_image 2 a) (fX7_image 220 a) := by
  obtain ⟨j, bi, rfl⟩ := i32_ex a
  intro h S K C M
  obtain ⟨cap, lst, c1, c2, c3, c4, c5⟩ := id C
  have co := c1.1.1
  have Bj : B64 j := ⟨by have := bi.1; omega, by have := bi.2; omega⟩
  by_cases c : 0 ≤ j ∧ j ≤ 1
  · obtain ⟨k, rfl⟩ : ∃ n : Nat, j = n := ⟨j.toNat, by omega⟩
    obtain ⟨g, E, Cg, O⟩ := c_image_ok (k := k) (by omega) K C
    obtain ⟨g2, E2, M2, F2⟩ := m_image_ok (k := k) (by omega) K (M.out O)
    exact ⟨_, g, g2, imA S k, E, E2, K.im, Cg.inn F2, M2⟩
  · refine ref_cal K C M (a := -1) (by decide) ?_ (fun g q => ?_)
    · unfold fX6_image
      rw [c_isImage bi, bd_some, decide_eq_false c, if_pos bz_f, if_pos co.k2, m1_32]
    · unfold fX7_image
      rw [if_pos q.k220, lt_def, i64_of32 bi, z64, o64, m_in (b := 0) (c := 1) Bj ⟨by decide, by decide⟩ ⟨by decide, by decide⟩, bd_some, decide_eq_false c, if_pos bz_f, m1_32]
theorem c_back_ok {k : Nat} {f : Nat → List Kn} (hk : k < 2) (K : AOk S) (C : CSt h S) (ef : aI S k = some f) : ∃ g, fX6_back 2 (i32 (k : Int)) h = some (i32 (skD f 0 6), g) ∧ CSt g (bkA S f) ∧ Out h g := by
  obtain ⟨cap, lst, c1, c2, c3, c4, c5⟩ := C
  have xk : ix (i32 (k : Int)) 2 := ix_i (by omega) (by omega) (by decide)
  have nk := nat_i k (by omega)
  have co0 := c1.1.1
  have Lf := (K.2.2.1 k f hk ef).len
  have im := c1.2.2 k hk
  have hl : ∀ j, j < 7 → (lst (16 + 7 * k + j)).length ≤ 1600 := fun j hj => by
    rw [im.2 f ef j hj]
    by_cases c : j < 6
    · have := Lf.1 j c; omega
    · rw [show j = 6 by omega]; exact Lf.2
  obtain ⟨h', cap', lst', m', E, I', R', L', O', A', B'⟩ := cp_all (t := fun i => i) (s := fun i => 16 + 7 * k + i) (fun i hi => by show i < 30; omega) (fun i hi => by show 16 + 7 * k + i < 30; omega) (fun i j hi hj => by show i ≠ 16 + 7 * k + j; omega) (fun i j hi hj z => z) (fun m i h => fX6_back_l31 m 2 (i32 (k : Int)) (i32 (i : Int)) h) (fun m i h cap lst hi I => by
    have co := I.1
    have x1 : ix (i32 ((k : Int) * 7 + (i : Int))) 14 := ix_i (by omega) (by omega) (by decide)
    have n1 : (i32 ((k : Int) * 7 + (i : Int))).toNatClampNeg = 7 * k + i := by rw [i32_nat (by omega) (by omega)]; omega
    have x2 : ix (i32 (i : Int)) 7 := ix_i (by omega) (by omega) (by decide)
    have n2 := nat_i i (by omega)
    have w := I.2.1 i (by omega)
    rw [sh_lo hi] at w
    show fX6_back_b31 _ 2 _ _ h = bd (fX4_copyOf (sh h i) (sh h (16 + 7 * k + i)) h) _
    rw [sh_im, sh_lo hi]
    unfold fX6_back_b31
    rw [if_neg (show ¬ (7 : Int32) ≤ i32 (i : Int) from sk_no (k := i) (n := 7) (by omega) (by decide)), if_pos co.k2, co.r2_0, if_pos co.k3, co.l3, if_pos x2, co.r2_3, if_pos co.k62, co.l62, show (7 : Int32) = i32 7 from rfl, i32_mul, i32_add, if_pos x1]
    simp only [n1, n2]
    rw [if_pos w.1.1]
    simp only [lt_def, one32, i32_add, kp1]) 7 0 FU h cap lst (by omega) (by rw [FU_eq]; omega) c1.1 c3 hl
  have co := I'.1
  have F : Fr (fun r c => (r = 10 ∧ c = 0) ∨ (r = 2 ∧ c = 6)) h' (sI (sI h' 10 0 0) 2 6 0) := (Fr.I _ (Or.inl ⟨rfl, rfl⟩)).tr (Fr.I _ (Or.inr ⟨rfl, rfl⟩))
  have ex : ∃ g, g = sI (sI h' 10 0 0) 2 6 0 := ⟨_, rfl⟩
  obtain ⟨g, eg⟩ := ex
  rw [← eg] at F
  have Ig : ShI g cap' lst' := I'.fr F (fun r c fr z => by
    have := fr.2.1
    rcases z with z | z <;> rw [z.1] at this <;> cases this)
  have o : ∀ r c, (∃ x, ckd r = some x) → ¬ ((r = 10 ∧ c = 0) ∨ (r = 2 ∧ c = 6)) → hI g r c = hI h r c := fun r c z1 z2 => ((F.2.2 r c z2).1).trans (L' r c z1)
  have hi7 : ∀ i, i < 7 → lst' i = f i := fun i hi => (A' i (Nat.zero_le _) hi).trans (im.2 f ef i hi)
  have lo : ∀ q, 7 ≤ q → lst' q = lst q := fun q hq => B' q (fun j _ hj => by show q ≠ j; omega)
  obtain ⟨nx, n1, n2, n3, n4, n5⟩ := c1.2.1
  refine ⟨g, ?_, ⟨cap', lst', ⟨Ig, ⟨nx, n1, by rw [o 10 2 ⟨_, rfl⟩ (by omega)]; exact n2, Nat.zero_le _, ?_, fun t u e0 => ?_⟩, fun p hp => ?_⟩, hi7, ?_, ?_, fun j hj => ?_, ?_, ?_, fun j hj => ?_⟩, O'.tr (F.out (fun r c a b => by omega))⟩
  · have e0 : skD lst' 0 6 = skD f 0 6 := skD_eq hi7 6 0 (by decide)
    have ee : fX6_back_b31 (fX6_back_l31 m') 2 (i32 (k : Int)) (i32 ((7 : Nat) : Int)) h' = some (i32 (skD f 0 6), g) := by
      unfold fX6_back_b31 fX0_forget
      rw [if_pos (show (7 : Int32) ≤ i32 ((7 : Nat) : Int) by decide), if_pos co.k2, co.r2_2, if_pos co.k10, if_pos co.k10, lt_def, bd_some, lt_def, ← eg, c_sk Ig, bd_some, e0]
    have bi : B32 (k : Int) := ⟨by omega, by omega⟩
    have e63 : hI h 63 k = bz true := by rw [im.1, ef]; rfl
    unfold fX6_back
    rw [c_isImage bi, bd_some, decide_eq_true (by omega), if_neg bzt0, if_pos co0.k2, co0.r2_4, if_pos co0.k63, co0.l63, if_pos xk]
    simp only [nk]
    rw [e63, if_neg bzt0, lt_def]
    exact E.trans ee
  · rw [eg, hI_sI, if_neg (by omega), hI_sI, if_pos ⟨rfl, rfl⟩]; rfl
  · have e0 : ([] : Und)[t]? = some u := e0
    rw [List.getElem?_nil] at e0; cases e0
  · have ip := c1.2.2 p hp
    exact ⟨by rw [o 63 p ⟨_, rfl⟩ (by omega)]; exact ip.1, fun f ef i hi => by rw [lo _ (by omega)]; exact ip.2 f ef i hi⟩
  · have ec : cnt g = cnt h' ∧ siz g = siz h' := by unfold cnt siz; rw [F.1]; exact ⟨rfl, rfl⟩
    unfold Room; rw [ec.1, ec.2]; exact R'
  · rw [eg, hI_sI, if_pos ⟨rfl, rfl⟩]; rfl
  · rw [o 66 j ⟨_, rfl⟩ (by omega)]; exact c5.1 j hj
  · rw [o 64 0 ⟨_, rfl⟩ (by omega)]; exact c5.2.1
  · rw [o 64 1 ⟨_, rfl⟩ (by omega)]; exact c5.2.2.1
  · rw [o 65 j ⟨_, rfl⟩ (by omega)]; exact c5.2.2.2 j hj
theorem m_back_ok {k : Nat} {f : Nat → List Kn} (hk : k < 2) (K : AOk S) (M : MSt h S) (ef : aI S k = some f) : ∃ g, fX7_back 220 (i32 (k : Int)) h = some (i32 (skD f 0 6), g) ∧ MSt g (bkA S f) ∧ Fr In220 h g := by
  obtain ⟨m1, m2, m3, m4, m5⟩ := M
  have xk : ix (i32 (k : Int)) 2 := ix_i (by omega) (by omega) (by decide)
  have nk := nat_i k (by omega)
  have q := m1.1
  have f0 : Fr (fun r c => r = 220 ∧ c = 0) h (sI h 220 0 0) := Fr.I _ ⟨rfl, rfl⟩
  have mc := MCo.fr ⟨m1, m2, m3⟩ K f0 (fun r c p q => by omega) (by omega)
  have q0 := mc.1.1
  have Lf := (K.2.2.1 k f hk ef).len
  obtain ⟨h1, E1, J1, F1⟩ := m_bring (K := 2) hk q0 q0.ly2 ((mc.2.2 k hk).2 f ef) Lf.1 Lf.2
  have q1 := F1.mo q0
  have F2 : Fr (fun r c => r = 220 ∧ c = 12) h1 (sI h1 220 12 0) := Fr.I _ ⟨rfl, rfl⟩
  have J2 := J1.fr2 F2 (fun r c a b => by omega) (by omega)
  have F3 : Fr (fun r c => r = 220 ∧ c = 1) (sI h1 220 12 0) (sI (sI h1 220 12 0) 220 1 0) := Fr.I _ ⟨rfl, rfl⟩
  obtain ⟨fu, u1, u2, u3, u4, u5⟩ := mc.2.1
  have sm : ∀ r c, (r = 221 ∨ r = 246 ∨ r = 234 ∨ (r = 220 ∧ (c = 36 ∨ c = 37 ∨ c = 18))) → hI (sI (sI h1 220 12 0) 220 1 0) r c = hI h r c := fun r c z => by
    rw [(F3.2.2 r c (by omega)).1, (F2.2.2 r c (by omega)).1, (F1.2.2 r c (by unfold ABr; omega)).1, (f0.2.2 r c (by omega)).1]
  refine ⟨sI (sI h1 220 12 0) 220 1 0, ?_, ⟨J2.fr2 F3 (fun r c a b => by omega) (by omega), ⟨fu, u1, ?_, Nat.zero_le _, ?_, fun t u e0 => ?_⟩, fun p hp => ⟨by rw [sm 234 p (by omega)]; exact (m3 p hp).1, fun f ef => ?_⟩, ?_, fun j hj => by rw [sm 221 j (by omega)]; exact m5.1 j hj, by rw [sm 220 36 (by omega)]; exact m5.2.1, by rw [sm 220 37 (by omega)]; exact m5.2.2.1, fun j hj => by rw [sm 246 j (by omega)]; exact m5.2.2.2 j hj⟩, ((f0.mono (fun r c z => by unfold In220; omega)).tr (F1.mono (fun r c z => by unfold ABr at z; unfold In220; omega))).tr ((F2.mono (fun r c z => by unfold In220; omega)).tr (F3.mono (fun r c z => by unfold In220; omega)))⟩
  · have bi : B32 (k : Int) := ⟨by omega, by omega⟩
    have e234 : hI (sI h 220 0 0) 234 k = bz true := by rw [hI_sI, if_neg (by omega), (m3 k hk).1, ef]; rfl
    unfold fX7_back
    rw [if_pos q.k220, lt_def, i64_of32 bi, z64, o64, m_in (b := 0) (c := 1) ⟨by omega, by omega⟩ ⟨by decide, by decide⟩ ⟨by decide, by decide⟩, bd_some, decide_eq_true (by omega), if_neg bzt0, q0.r17, if_pos q0.k234, q0.l234, if_pos xk]
    simp only [nk]
    rw [e234, if_neg bzt0, q0.r13, q0.r14, q0.r15, q0.r16, E1, bd_some, lt_def, m_knS J2, bd_some, m_tell J2.1, bd_some]
  · rw [sm 220 18 (by omega), ← (f0.2.2 220 18 (by omega)).1]; exact u2
  · rw [hI_sI, if_neg (by omega), hI_sI, if_pos ⟨rfl, rfl⟩]; rfl
  · have e0 : ([] : Sns)[t]? = some u := e0
    rw [List.getElem?_nil] at e0; cases e0
  · have L := (K.2.2.1 p f hp ef).len
    exact ((((mc.2.2 p hp).2 f ef).img L F1 (fun r c a b => by unfold ABr; omega)).img L F2 (fun r c a b => by omega)).img L F3 (fun r c a b => by omega)
  · rw [hI_sI, if_pos ⟨rfl, rfl⟩]; rfl
theorem Cal_back (a : Int32) : Cal (fX6_back 2 a) (fX7_back 220 a) := by
  obtain ⟨j, bi, rfl⟩ := i32_ex a
  intro h S K C M
  obtain ⟨cap, lst, c1, c2, c3, c4, c5⟩ := id C
  have co := c1.1.1
  have Bj : B64 j := ⟨by have := bi.1; omega, by have := bi.2; omega⟩
  by_cases c : 0 ≤ j ∧ j ≤ 1
  · obtain ⟨k, rfl⟩ : ∃ n : Nat, j = n := ⟨j.toNat, by omega⟩
    have hk : k < 2 := by omega
    have xk : ix (i32 (k : Int)) 2 := ix_i (by omega) (by omega) (by decide)
    have nk := nat_i k (by omega)
    cases ei : aI S k with
    | none =>
      refine ref_cal2 K C M (a := -2) (by decide) ?_ (fun g Mg => ?_)
      · have e63 : hI h 63 k = bz false := by rw [(c1.2.2 k hk).1, ei]; rfl
        unfold fX6_back
        rw [c_isImage bi, bd_some, decide_eq_true c, if_neg bzt0, if_pos co.k2, co.r2_4, if_pos co.k63, co.l63, if_pos xk]
        simp only [nk]
        rw [e63, if_pos bz_f, m2_32]
      · have f0 : Fr (fun r c => r = 220 ∧ c = 0) g (sI g 220 0 0) := Fr.I _ ⟨rfl, rfl⟩
        have q0 := f0.mo Mg.1.1
        have e234 : hI (sI g 220 0 0) 234 k = bz false := by rw [hI_sI, if_neg (by omega), (Mg.2.2.1 k hk).1, ei]; rfl
        unfold fX7_back
        rw [if_pos Mg.1.1.k220, lt_def, i64_of32 bi, z64, o64, m_in (b := 0) (c := 1) Bj ⟨by decide, by decide⟩ ⟨by decide, by decide⟩, bd_some, decide_eq_true c, if_neg bzt0, q0.r17, if_pos q0.k234, q0.l234, if_pos xk]
        simp only [nk]
        rw [e234, if_pos bz_f, m2_32]
    | some f =>
      obtain ⟨g, E, Cg, O⟩ := c_back_ok hk K C ei
      obtain ⟨g2, E2, M2, F2⟩ := m_back_ok hk K (M.out O) ei
      exact ⟨_, g, g2, bkA S f, E, E2, ⟨K.2.2.1 k f hk ei, (fun u hu => absurd hu List.not_mem_nil), K.2.2.1, K.2.2.2⟩, Cg.inn F2, M2⟩
  · refine ref_cal K C M (a := -1) (by decide) ?_ (fun g q => ?_)
    · unfold fX6_back
      rw [c_isImage bi, bd_some, decide_eq_false c, if_pos bz_f, if_pos co.k2, m1_32]
    · unfold fX7_back
      rw [if_pos q.k220, lt_def, i64_of32 bi, z64, o64, m_in (b := 0) (c := 1) Bj ⟨by decide, by decide⟩ ⟨by decide, by decide⟩, bd_some, decide_eq_false c, if_pos bz_f, m1_32]
end BK
