/-! CALLS: questions as calls; undo, status, fault, end -/
def CalJ (f g : xH → Option (Int64 × xH)) : Prop := ∀ h S, AOk S → CSt h S → MSt h S → ∃ r h1 h2 S', f h = some (r, h1) ∧ g h1 = some (r, h2) ∧ AOk S' ∧ CSt h2 S' ∧ MSt h2 S'
section QC
variable {h h' : xH} {S : Ast}
theorem CSt.ci0 (C : CSt h S) : CI0 h (aC S) := by
  obtain ⟨cap, lst, c1, c2, _⟩ := C
  refine ⟨c1.1.1, fun i hi => ⟨cap i, ?_⟩⟩
  have w := c1.1.2.1 i (by omega)
  have e : sh h i = hR h 3 i := by unfold sh; rw [if_pos hi]
  rw [e, c2 i hi] at w
  exact w
theorem CSt.cs (C : CSt h S) (f : Fr CSc h h') : CSt h' S := by
  obtain ⟨cap, lst, c1, c2, c3, c4, c5⟩ := C
  have ec : cnt h' = cnt h ∧ siz h' = siz h := by unfold cnt siz; rw [f.1]; exact ⟨rfl, rfl⟩
  have o : ∀ r c, ¬ CSc r c → hI h' r c = hI h r c := fun r c z => (f.2.2 r c z).1
  refine ⟨cap, lst, c1.fr f (fun r k fr z => ?_) (fun k => by unfold CSc; omega), c2, by unfold Room; rw [ec.1, ec.2]; exact c3, by rw [o 2 6 (by unfold CSc; omega)]; exact c4, fun k hk => by rw [o 66 k (by unfold CSc; omega)]; exact c5.1 k hk, by rw [o 64 0 (by unfold CSc; omega)]; exact c5.2.1, by rw [o 64 1 (by unfold CSc; omega)]; exact c5.2.2.1, fun k hk => by rw [o 65 k (by unfold CSc; omega)]; exact c5.2.2.2 k hk⟩
  have := fr.2.1
  unfold CSc at z
  rcases (show r = 88 ∨ r = 89 ∨ r = 90 ∨ r = 91 ∨ r = 92 ∨ r = 93 ∨ r = 2 by omega) with e | e | e | e | e | e | e <;> rw [e] at this <;> cases this
theorem MSt.sm {A : Nat → Nat → Prop} (M : MSt h S) (K : AOk S) (f : Fr A h h') (hA : ∀ r c, A r c → (235 ≤ r ∧ r ≤ 245) ∨ (247 ≤ r ∧ r ≤ 249) ∨ (r = 220 ∧ c ≠ 1 ∧ c ≠ 4 ∧ c ≠ 12 ∧ c ≠ 18 ∧ c ≠ 36 ∧ c ≠ 37)) : MSt h' S := by
  obtain ⟨m1, m2, m3, m4, m5⟩ := M
  have nA : ∀ r c, (221 ≤ r ∧ r ≤ 234 ∨ r = 246 ∨ (r = 220 ∧ (c = 1 ∨ c = 4 ∨ c = 12 ∨ c = 18 ∨ c = 36 ∨ c = 37))) → ¬ A r c := fun r c z y => by have := hA r c y; omega
  have mc := MCo.fr ⟨m1, m2, m3⟩ K f (fun r c p q => nA r c (by omega)) ⟨nA _ _ (by omega), nA _ _ (by omega), nA _ _ (by omega)⟩
  exact ⟨mc.1, mc.2.1, mc.2.2, by rw [(f.2.2 220 1 (nA _ _ (by omega))).1]; exact m4, fun k hk => by rw [(f.2.2 221 k (nA _ _ (by omega))).1]; exact m5.1 k hk, by rw [(f.2.2 220 36 (nA _ _ (by omega))).1]; exact m5.2.1, by rw [(f.2.2 220 37 (nA _ _ (by omega))).1]; exact m5.2.2.1, fun k hk => by rw [(f.2.2 246 k (nA _ _ (by omega))).1]; exact m5.2.2.2 k hk⟩
theorem ag_cal {α : Type} {f g : xH → Option (α × xH)} (hq : ∀ cur, CurOk cur → Ag cur f g) (K : AOk S) (C : CSt h S) (M : MSt h S) : ∃ r h1 h2 S', f h = some (r, h1) ∧ g h1 = some (r, h2) ∧ AOk S' ∧ CSt h2 S' ∧ MSt h2 S' := by
  have ag := hq (aC S) K.1
  obtain ⟨r, h1, h2, E1, F1, -, -⟩ := ag h h C.ci0 M.1
  have M1 := M.out (F1.out (fun r k p q => by unfold CSc; omega))
  obtain ⟨r', h1', h3, E1', F1', E3, F3⟩ := ag h h1 C.ci0 M1.1
  rw [E1] at E1'
  have er : r = r' := congrArg Prod.fst (Option.some.inj E1')
  refine ⟨r, h1, h3, S, E1, by rw [er]; exact E3, K, (C.cs F1).inn (F3.mono (fun r c z => by unfold MSc at z; unfold In220; omega)), M1.sm K F3 (fun r c z => by unfold MSc at z; omega)⟩
theorem Cal_of {f g : xH → Option (Int32 × xH)} (hq : ∀ cur, CurOk cur → Ag cur f g) : Cal f g := fun h S K C M => ag_cal hq K C M
theorem CalJ_of {f g : xH → Option (Int64 × xH)} (hq : ∀ cur, CurOk cur → Ag cur f g) : CalJ f g := fun h S K C M => ag_cal hq K C M
theorem ref_cal2 {f g : xH → Option (Int32 × xH)} {a : Int} (K : AOk S) (C : CSt h S) (M : MSt h S) (ha : -6 ≤ a ∧ a ≤ -1) (hf : f h = bd (fX6_refuse 2 (i32 a) h) (fun w4 g2 => some (w4, g2))) (hg : ∀ h1, MSt h1 S → g h1 = bd (fX7_refuse 220 (i32 a) (sI h1 220 0 0)) (fun w4 g2 => some (w4, g2))) : ∃ r h1 h2 S', f h = some (r, h1) ∧ g h1 = some (r, h2) ∧ AOk S' ∧ CSt h2 S' ∧ MSt h2 S' := by
  obtain ⟨h1, E1, C1, O1⟩ := c_ref C ha
  have M1 := M.out O1
  obtain ⟨h2, E2, M2, F2⟩ := m_ref K M1 ha
  exact ⟨i32 a, h1, h2, refA S a, by rw [hf, E1, bd_some], by rw [hg h1 M1, E2, bd_some], K, C1.inn F2, M2⟩
/-! undo -/
theorem Cal_undo : Cal (fX6_undo 2) (fX7_undo 220) := by
  intro h S K C M
  obtain ⟨cap, lst, c1, c2, c3, c4, c5⟩ := id C
  have co := c1.1.1
  cases eu : aU S with
  | nil =>
    obtain ⟨nx, n1, n2, n3, n4, n5⟩ := c1.2.1
    rw [eu] at n4
    refine ref_cal2 K C M (a := -4) (by decide) ?_ (fun g Mg => ?_)
    · unfold fX6_undo
      rw [if_pos co.k2, co.r2_2, if_pos co.k10, if_pos (by rw [n4]; rfl), show (-4 : Int32) = i32 (-4) from rfl]
    · obtain ⟨fu, u1, u2, u3, u4, u5⟩ := Mg.2.1
      rw [eu] at u4
      have e12 : hI (sI g 220 0 0) 220 12 = 0 := by rw [hI_sI, if_neg (by omega), u4]; rfl
      unfold fX7_undo
      rw [if_pos Mg.1.1.k220, lt_def, if_pos e12, show (-4 : Int32) = i32 (-4) from rfl]
  | cons u rest =>
    obtain ⟨act, slot, old⟩ := u
    rw [eu] at c1
    obtain ⟨g1, at0, a8, hs, eo, E1, I1, K1, s1⟩ := c_undo c1
    have M1 := M.out K1.out
    obtain ⟨m1, m2, m3, m4, m5⟩ := M1
    rw [eu] at m2
    have Ls : ∀ u ∈ snL (aC S) ((act, slot, old) :: rest), LenOk u.2 := fun u hu => (K.2.1 u (by rw [eu]; exact hu)).len
    obtain ⟨g2, E2, U2, J2, s2, F2⟩ := m_undo (a := act) (f := upA (aC S) slot old) (rest := snL (upA (aC S) slot old) rest) m1.1 Ls m2
    have K0 : AOk (upA (aC S) slot old, rest, aI S, aT S, aF S, 0, aR S) := by
      refine ⟨K.2.1 (act, upA (aC S) slot old) (by rw [eu]; exact List.mem_cons_self), fun u hu => K.2.1 u (by rw [eu]; exact List.mem_cons_of_mem _ hu), K.2.2.1, K.2.2.2⟩
    have sm : ∀ r c, (r = 221 ∨ r = 246 ∨ (230 ≤ r ∧ r ≤ 234) ∨ (r = 220 ∧ (c = 36 ∨ c = 37))) → hI g2 r c = hI g1 r c := fun r c z => (F2.2.2 r c (by unfold ABr; omega)).1
    refine ⟨i32 act, g1, g2, (upA (aC S) slot old, rest, aI S, aT S, aF S, 0, aR S), E1, E2, K0, CSt.inn ?_ (F2.mono (fun r c z => by unfold ABr at z; unfold In220; omega)), J2, U2, fun k hk => ⟨by rw [sm 234 k (by omega)]; exact (m3 k hk).1, fun f ef => ((m3 k hk).2 f ef).img (K.2.2.1 k f hk ef).len F2 (fun r c p q => by unfold ABr; omega)⟩, s2, fun k hk => by rw [sm 221 k (by omega)]; exact m5.1 k hk, by rw [sm 220 36 (by omega)]; exact m5.2.1, by rw [sm 220 37 (by omega)]; exact m5.2.2.1, fun k hk => by rw [sm 246 k (by omega)]; exact m5.2.2.2 k hk⟩
    refine ⟨_, _, I1, fun i hi => ?_, ?_, s1, fun k hk => ?_, ?_, ?_, fun k hk => ?_⟩
    · show lst (swp slot (8 + at0) i) = upA (aC S) slot old i
      unfold swp upA
      by_cases c : i = slot
      · rw [if_pos c, if_pos c]; exact eo
      · rw [if_neg c, if_neg (by omega), if_neg c]; exact c2 i hi
    · have ec : cnt g1 = cnt h ∧ siz g1 = siz h := by unfold cnt siz; rw [K1.1]; exact ⟨rfl, rfl⟩
      unfold Room
      rw [sumQ_swp _ (by omega) (by omega) (by omega), ec.1, ec.2]; exact c3
    · rw [(K1.2.2.2 66 k (by decide) (by decide) (by decide) (by omega)).1]; exact c5.1 k hk
    · rw [(K1.2.2.2 64 0 (by decide) (by decide) (by decide) (by omega)).1]; exact c5.2.1
    · rw [(K1.2.2.2 64 1 (by decide) (by decide) (by decide) (by omega)).1]; exact c5.2.2.1
    · rw [(K1.2.2.2 65 k (by decide) (by decide) (by decide) (by omega)).1]; exact c5.2.2.2 k hk
/-! status, fault, end -/
theorem Cal_status : Cal (fX6_status 2) (fX7_status 220) := by
  intro h S K C M
  obtain ⟨cap, lst, c1, c2, c3, c4, c5⟩ := id C
  have f0 : Fr (fun r c => r = 220 ∧ c = 0) h (sI h 220 0 0) := Fr.I _ ⟨rfl, rfl⟩
  refine ⟨aS S, h, sI h 220 0 0, S, ?_, ?_, K, C.inn (f0.mono (fun r c z => by unfold In220; omega)), M.sm K f0 (fun r c z => by omega)⟩
  · unfold fX6_status
    rw [if_pos c1.1.1.k2, c4]
  · unfold fX7_status
    rw [if_pos M.1.1.k220, lt_def, hI_sI, if_neg (by omega), M.2.2.2.1]
theorem Cal_fault : Cal (fX6_fault 2) (fX7_fault 220) := by
  intro h S K C M
  obtain ⟨cap, lst, c1, c2, c3, c4, c5⟩ := id C
  have co := c1.1.1
  have f0 : Fr (fun r c => r = 220 ∧ c = 0) h (sI h 220 0 0) := Fr.I _ ⟨rfl, rfl⟩
  refine ⟨aF S, h, sI h 220 0 0, S, ?_, ?_, K, C.inn (f0.mono (fun r c z => by unfold In220; omega)), M.sm K f0 (fun r c z => by omega)⟩
  · unfold fX6_fault
    rw [if_pos co.k2, co.r2_5, if_pos co.k64, c5.2.2.1]
  · unfold fX7_fault
    rw [if_pos M.1.1.k220, lt_def, hI_sI, if_neg (by omega), M.2.2.2.2.2.2.1]
theorem Cal_end (a : Int32) : Cal (fX6_end 2 a) (fX7_end_ 220 a) := by
  obtain ⟨n, bn, rfl⟩ := i32_ex a
  intro h S K C M
  obtain ⟨cap, lst, c1, c2, c3, c4, c5⟩ := id C
  obtain ⟨m1, m2, m3, m4, m5⟩ := id M
  have co := c1.1.1
  have tl := K.2.2.2
  have Bn : B64 n := ⟨by have := bn.1; omega, by have := bn.2; omega⟩
  have f0 : Fr (fun r c => r = 220 ∧ c = 0) h (sI h 220 0 0) := Fr.I _ ⟨rfl, rfl⟩
  have l1 : (i32 n < (0 : Int32)) ↔ n < 0 := i32_lt bn (b := 0) ⟨by decide, by decide⟩
  have l2 : (i32 n ≤ i32 ((aT S).1 : Int)) ↔ n ≤ (aT S).1 := i32_le bn ⟨by omega, by omega⟩
  by_cases c : 0 ≤ n ∧ n ≤ ((aT S).1 : Int)
  · have eS : ∀ g : xH, CSt g S → Mo g → True := fun _ _ _ => trivial
    have fc : Fr (fun r c => r = 64 ∧ c = 0) h (sI h 64 0 (i32 n)) := Fr.I _ ⟨rfl, rfl⟩
    have O1 := fc.out (fun r k p q => by omega)
    have M1 := M.out O1
    obtain ⟨k1, k2, k3, k4, k5⟩ := id M1
    have q := k1.1
    have fm : Fr (fun r c => r = 220 ∧ (c = 0 ∨ c = 36)) (sI h 64 0 (i32 n)) (sI (sI (sI h 64 0 (i32 n)) 220 0 0) 220 36 (i32 n)) := (Fr.I _ ⟨rfl, Or.inl rfl⟩).tr (Fr.I _ ⟨rfl, Or.inr rfl⟩)
    have mc := MCo.fr ⟨k1, k2, k3⟩ K fm (fun r c p q => by omega) (by omega)
    refine ⟨i32 n, sI h 64 0 (i32 n), _, (aC S, aU S, aI S, (n.toNat, (aT S).2), aF S, aS S, aR S), ?_, ?_, ⟨K.1, K.2.1, K.2.2.1, by show n.toNat ≤ 400; omega⟩, CSt.inn ?_ (fm.mono (fun r c z => by unfold In220; omega)), mc.1, mc.2.1, mc.2.2, by rw [(fm.2.2 220 1 (by omega)).1]; exact k4, fun k hk => by rw [(fm.2.2 221 k (by omega)).1]; exact k5.1 k hk, ?_, by rw [(fm.2.2 220 37 (by omega)).1]; exact k5.2.2.1, fun k hk => ?_⟩
    · unfold fX6_end
      rw [if_neg (fun z => by have := l1.mp z; omega), if_pos co.k2, co.r2_5, if_pos co.k64, c5.2.1, if_pos (l2.mpr c.2), lt_def]
    · unfold fX7_end_
      have e36 : hI (sI (sI h 64 0 (i32 n)) 220 0 0) 220 36 = i32 ((aT S).1 : Int) := by rw [hI_sI, if_neg (by omega)]; exact k5.2.1
      rw [if_pos q.k220, lt_def, e36, i64_of32 bn, i64_of32 ⟨by omega, by omega⟩, z64, m_in (b := 0) (c := ((aT S).1 : Int)) Bn ⟨by decide, by decide⟩ ⟨by omega, by omega⟩, bd_some, decide_eq_true c, if_neg bzt0, lt_def]
    · refine ⟨cap, lst, c1.fr fc (fun r k fr z => by have := fr.2.1; rw [z.1] at this; cases this) (fun k => by omega), c2, c3, by rw [(fc.2.2 2 6 (by omega)).1]; exact c4, fun k hk => by rw [(fc.2.2 66 k (by omega)).1]; exact c5.1 k hk, ?_, by rw [(fc.2.2 64 1 (by omega)).1]; exact c5.2.2.1, fun k hk => ?_⟩
      · rw [hI_sI, if_pos ⟨rfl, rfl⟩]
        show i32 n = i32 (n.toNat : Int)
        rw [show (n.toNat : Int) = n by omega]
      · have hk : k < n.toNat := hk
        rw [(fc.2.2 65 k (by omega)).1]; exact c5.2.2.2 k (by omega)
    · rw [hI_sI, if_pos ⟨rfl, rfl⟩]
      show i32 n = i32 (n.toNat : Int)
      rw [show (n.toNat : Int) = n by omega]
    · have hk : k < n.toNat := hk
      rw [(fm.2.2 246 k (by omega)).1]; exact k5.2.2.2 k (by omega)
  · refine ⟨-1, h, sI h 220 0 0, S, ?_, ?_, K, C.inn (f0.mono (fun r c z => by unfold In220; omega)), M.sm K f0 (fun r c z => by omega)⟩
    · unfold fX6_end
      by_cases c0 : n < 0
      · rw [if_pos (l1.mpr c0)]
      · rw [if_neg (fun z => c0 (l1.mp z)), if_pos co.k2, co.r2_5, if_pos co.k64, c5.2.1, if_neg (fun z => by have := l2.mp z; omega)]
    · unfold fX7_end_
      have e36 : hI (sI h 220 0 0) 220 36 = i32 ((aT S).1 : Int) := by rw [hI_sI, if_neg (by omega)]; exact m5.2.1
      rw [if_pos m1.1.k220, lt_def, e36, i64_of32 bn, i64_of32 ⟨by omega, by omega⟩, z64, m_in (b := 0) (c := ((aT S).1 : Int)) Bn ⟨by decide, by decide⟩ ⟨by omega, by omega⟩, bd_some, decide_eq_false c, if_pos bz_f]
end QC
