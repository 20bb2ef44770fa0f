/-! THE CLASS' copyOf -/
theorem hR_cpJ (h : xH) (s d n r k : Nat) : hR (cpJ h s 0 d 0 n) r k = hR h r k := rfl
theorem hI_cpJ (h : xH) (s d n r k : Nat) : hI (cpJ h s 0 d 0 n) r k = hI h r k := rfl
theorem hJ_cpI (h : xH) (s d n r k : Nat) : hJ (cpI h s 0 d 0 n) r k = hJ h r k := rfl
theorem hJ_cpJ (h : xH) (s d n r k : Nat) : hJ (cpJ h s 0 d 0 n) r k = if r = d ∧ k < n then hJ h s k else hJ h r k := by
  unfold hJ cpJ cp2
  simp only [Nat.zero_add, Nat.sub_zero, Nat.zero_le, true_and]
theorem hI_cpI (h : xH) (s d n r k : Nat) : hI (cpI h s 0 d 0 n) r k = if r = d ∧ k < n then hI h s k else hI h r k := by
  unfold hI cpI cp2
  simp only [Nat.zero_add, Nat.sub_zero, Nat.zero_le, true_and]
theorem Fr.cJ {A : Nat → Nat → Prop} {h : xH} {s d n : Nat} (ha : ∀ k, A d k) : Fr A h (cpJ h s 0 d 0 n) := ⟨rfl, rfl, fun r k hn => ⟨rfl, by rw [hJ_cpJ, if_neg (fun z => hn (by rw [z.1]; exact ha k))]⟩⟩
theorem Fr.cI {A : Nat → Nat → Prop} {h : xH} {s d n : Nat} (ha : ∀ k, A d k) : Fr A h (cpI h s 0 d 0 n) := ⟨rfl, rfl, fun r k hn => ⟨by rw [hI_cpI, if_neg (fun z => hn (by rw [z.1]; exact ha k))], rfl⟩⟩
theorem c_copyOf {h : xH} {s o cap capo : Nat} {k0 ks : List Kn} (W : ShK h s cap k0) (V : ShK h o capo ks) (ap : ∀ r k k', AX h s r k → ¬ AX h o r k') (hl : ks.length ≤ 1600) : ∃ h' cap', fX4_copyOf s o h = some ((), h') ∧ ShK h' s cap' ks ∧ SSt h h' s cap cap' := by
  have hc := W.2.2
  obtain ⟨h1, cap', E1, S1, K1, C1, C2, R1, G1, Z1⟩ := c_makeRoom (need := ks.length) W.1 W.2.1 W.2.2.1 (by omega) (by omega)
  have hcap' : cap' ≤ 3200 := by rw [C2]; split <;> (try split) <;> omega
  have rm : Rm h h1 cap cap' := room_rm C2 Z1
  obtain ⟨V1, vo⟩ := V.gr G1 (fun r k z y => ap r k k (Or.inl y.1) z)
  have nx := G1.1.nx
  have ex1 : ∀ r k, AX h1 s r k → AX h s r k ∨ hnx h ≤ r := by
    intro r k z
    rcases z with z | ⟨j, j1, j2, z⟩
    · exact Or.inl (Or.inl z)
    · rcases R1 j j1 j2 with y | y
      · exact Or.inl (Or.inr ⟨j, j1, j2, by rw [z, y]⟩)
      · right; rw [z]; exact y
  have exo : ∀ r k, AX h1 o r k → AX h o r k := by
    intro r k z
    rcases z with z | ⟨j, j1, j2, z⟩
    · exact Or.inl z
    · rw [vo] at z; exact Or.inr ⟨j, j1, j2, z⟩
  have ap1 : ∀ r k k', AX h1 s r k → ¬ AX h1 o r k' := by
    intro r k k' z y
    rcases ex1 r k z with q | q
    · exact ap r k k' q (exo r k' y)
    · have := AX_lt V (exo r k' y); omega
  have nab : ∀ i j, 1 ≤ i → i ≤ 5 → 1 ≤ j → j ≤ 5 → hR h1 o i ≠ hR h1 s j := by
    intro i j a b c d z
    exact ap1 (hR h1 s j) 0 0 (Or.inr ⟨j, c, d, rfl⟩) (Or.inr ⟨i, a, b, z.symm⟩)
  have nos : ∀ i, 1 ≤ i → i ≤ 5 → hR h1 o i ≠ s := fun i a b z => ap1 s 0 0 (Or.inl rfl) (Or.inr ⟨i, a, b, z.symm⟩)
  have n5 : ∀ j, 1 ≤ j → j ≤ 4 → hR h1 s j ≠ hR h1 s 5 := by
    intro j a b z
    have e1 := (S1.2.1 j a b).1
    have e2 := S1.2.2.1.1
    rw [z] at e1; omega
  have ns : ∀ j, 1 ≤ j → j ≤ 5 → hR h1 s j ≠ s := by
    intro j a b z
    have e1 := S1.1
    by_cases c : j = 5
    · have e2 := S1.2.2.1.1; rw [← c, z] at e2; omega
    · have e2 := (S1.2.1 j a (by omega)).1; rw [z] at e2; omega
  have sd := S1.2.2.2
  have nn : (i32 (ks.length : Int)).toNatClampNeg = ks.length := nat_i _ (by omega)
  have l0 : hI h o 0 = i32 ks.length := V.2.1.1
  have l1 : hI h1 o 0 = i32 ks.length := V1.2.1.1
  have vc := V.2.2
  have n0 : ¬ i32 (ks.length : Int) < 0 := nlt0 (by omega)
  have okJ : ∀ (g : xH) (j : Nat), 1 ≤ j → j ≤ 4 → g.1 = h1.1 → cpOk 9 g (hR h1 o j) (hR h1 s j) 0 0 (i32 (ks.length : Int)) := by
    intro g j a b e0
    have kk : ∀ r, kc g r = kc h1 r ∧ kl g r = kl h1 r := fun r => by unfold kc kl xkd; rw [e0]; exact ⟨rfl, rfl⟩
    have v2 := V1.1.2.1 j a b
    have s2 := S1.2.1 j a b
    refine ⟨by rw [(kk _).1]; exact v2.1, by rw [(kk _).1]; exact s2.1, nab j j a (by omega) a (by omega), by decide, by decide, n0, ?_, ?_⟩
    · rw [nn, (kk _).2, v2.2]; show 0 + ks.length ≤ capo; omega
    · rw [nn, (kk _).2, s2.2]; show 0 + ks.length ≤ cap'; omega
  have okI : ∀ (g : xH), g.1 = h1.1 → cpOk 8 g (hR h1 o 5) (hR h1 s 5) 0 0 (i32 (ks.length : Int)) := by
    intro g e0
    have kk : ∀ r, kc g r = kc h1 r ∧ kl g r = kl h1 r := fun r => by unfold kc kl xkd; rw [e0]; exact ⟨rfl, rfl⟩
    have v2 := V1.1.2.2.1
    have s2 := S1.2.2.1
    refine ⟨by rw [(kk _).1]; exact v2.1, by rw [(kk _).1]; exact s2.1, nab 5 5 (by decide) (by decide) (by decide) (by decide), by decide, by decide, n0, ?_, ?_⟩
    · rw [nn, (kk _).2, v2.2]; show 0 + ks.length ≤ capo; omega
    · rw [nn, (kk _).2, s2.2]; show 0 + ks.length ≤ cap'; omega
  have hg7 : ∃ g7, g7 = sI h1 s 0 (i32 ks.length) := ⟨_, rfl⟩
  obtain ⟨g7, e7⟩ := hg7
  have f7 : Fr (AX h1 s) h1 g7 := by rw [e7]; exact Fr.I _ (Or.inl rfl)
  have r7 : ∀ r k, hR g7 r k = hR h1 r k := fun r k => f7.ehR r k
  have i7 : hI g7 s 0 = i32 ks.length := by rw [e7, hI_sI, if_pos ⟨rfl, rfl⟩]
  have ax : ∀ j k, 1 ≤ j → j ≤ 5 → AX h1 s (hR h1 s j) k := fun j k a b => Or.inr ⟨j, a, b, rfl⟩
  have FF : Fr (AX h1 s) h1 (cpI (cpJ (cpJ (cpJ (cpJ g7 (hR h1 o 1) 0 (hR h1 s 1) 0 ks.length) (hR h1 o 2) 0 (hR h1 s 2) 0 ks.length) (hR h1 o 3) 0 (hR h1 s 3) 0 ks.length) (hR h1 o 4) 0 (hR h1 s 4) 0 ks.length) (hR h1 o 5) 0 (hR h1 s 5) 0 ks.length) := ((((f7.tr (Fr.cJ (fun k => ax 1 k (by decide) (by decide)))).tr (Fr.cJ (fun k => ax 2 k (by decide) (by decide)))).tr (Fr.cJ (fun k => ax 3 k (by decide) (by decide)))).tr (Fr.cJ (fun k => ax 4 k (by decide) (by decide)))).tr (Fr.cI (fun k => ax 5 k (by decide) (by decide)))
  refine ⟨_, cap', ?_, ⟨S1.fr FF, ⟨?_, fun i kn e0 => ?_⟩, C1, hcap'⟩, ?_⟩
  rotate_left
  · rw [hI_cpI, if_neg (fun z => (ns 5 (by decide) (by decide)) z.1.symm)]
    exact i7
  · have hi : i < ks.length := (List.getElem?_eq_some_iff.mp e0).1
    have v := V1.2.1.2 i kn e0
    have j7 : ∀ r k, hJ g7 r k = hJ h1 r k := fun r k => by rw [e7, hJ_sI]
    have q7 : ∀ r k, r ≠ s → hI g7 r k = hI h1 r k := fun r k hr => by rw [e7, hI_sI, if_neg (fun z => hr z.1)]
    have a12 := sd 1 2 (by decide) (by decide) (by decide)
    have a13 := sd 1 3 (by decide) (by decide) (by decide)
    have a14 := sd 1 4 (by decide) (by decide) (by decide)
    have a23 := sd 2 3 (by decide) (by decide) (by decide)
    have a24 := sd 2 4 (by decide) (by decide) (by decide)
    have a34 := sd 3 4 (by decide) (by decide) (by decide)
    have m : ∀ i j, 1 ≤ i → i ≤ 5 → 1 ≤ j → j ≤ 5 → ¬ hR h1 o i = hR h1 s j := nab
    simp only [FF.ehR, hJ_cpI, hJ_cpJ, hI_cpI, hI_cpJ, hi, and_true, a12, a13, a14, a23, a24, a34, Ne.symm a12, Ne.symm a13, Ne.symm a14, Ne.symm a23, Ne.symm a24, Ne.symm a34, if_false, if_true, m 2 1 (by decide) (by decide) (by decide) (by decide), m 3 1 (by decide) (by decide) (by decide) (by decide), m 3 2 (by decide) (by decide) (by decide) (by decide), m 4 1 (by decide) (by decide) (by decide) (by decide), m 4 2 (by decide) (by decide) (by decide) (by decide), m 4 3 (by decide) (by decide) (by decide) (by decide), j7, q7 _ _ (nos 5 (by decide) (by decide))]
    exact v
  · refine ⟨rm.tr (Rm.same FF.1 cap'), fun j j1 j2 => ?_, ?_⟩
    · rw [FF.ehR]; exact R1 j j1 j2
    · refine ⟨G1.1.tr (FF.gr (A := AX h1 s)).1, fun r k hr hn => ?_⟩
      have x1 := G1.2 r k hr (fun z => hn (Or.inl z.1))
      have x2 := FF.2.2 r k (fun z => by
        rcases ex1 r k z with y | y
        · exact hn y
        · omega)
      exact ⟨x2.1.trans x1.1, x2.2.trans x1.2.1, (FF.ehR r k).trans x1.2.2⟩
  · unfold fX4_copyOf
    have ko : kc h o = 4 := V.1.1
    have c1 : ∀ g : xH, g.1 = h1.1 → g.1 = h1.1 := fun g e0 => e0
    have e71 : g7.1 = h1.1 := f7.1
    rw [if_pos ko, if_pos W.1.1, l0, E1, bd_some, lt_def, l1, ← e7]
    simp only [i7, r7, hR_cpJ, hI_cpJ, lt_def, nn, show (0 : Int32).toNatClampNeg = 0 from rfl]
    rw [if_pos (okJ g7 1 (by decide) (by decide) e71), if_pos (okJ (cpJ g7 (hR h1 o 1) 0 (hR h1 s 1) 0 ks.length) 2 (by decide) (by decide) e71), if_pos (okJ (cpJ (cpJ g7 (hR h1 o 1) 0 (hR h1 s 1) 0 ks.length) (hR h1 o 2) 0 (hR h1 s 2) 0 ks.length) 3 (by decide) (by decide) e71), if_pos (okJ (cpJ (cpJ (cpJ g7 (hR h1 o 1) 0 (hR h1 s 1) 0 ks.length) (hR h1 o 2) 0 (hR h1 s 2) 0 ks.length) (hR h1 o 3) 0 (hR h1 s 3) 0 ks.length) 4 (by decide) (by decide) e71), if_pos (okI (cpJ (cpJ (cpJ (cpJ g7 (hR h1 o 1) 0 (hR h1 s 1) 0 ks.length) (hR h1 o 2) 0 (hR h1 s 2) 0 ks.length) (hR h1 o 3) 0 (hR h1 s 3) 0 ks.length) (hR h1 o 4) 0 (hR h1 s 4) 0 ks.length) e71)]
