/-! THE CLASS' makeRoom -/
theorem c_max {a b : Int} (ha : B32 a) (hb : B32 b) (h : xH) : fJ9_max_7cf53 (i32 a) (i32 b) h = some (i32 (if a < b then b else a), h) := by
  unfold fJ9_max_7cf53
  by_cases c : a < b
  · rw [if_pos ((i32_lt ha hb).mpr c), if_pos c]
  · rw [if_neg (fun z => c ((i32_lt ha hb).mp z)), if_neg c]
theorem gk_c {A : Nat → Nat → Prop} {g g' : xH} (G : Gr A g g') {r : Nat} (hr : r < hnx g) : kc g' r = kc g r ∧ kl g' r = kl g r := ⟨by unfold kc; rw [G.1.xkd hr], by unfold kl; rw [G.1.xkd hr]⟩
theorem gk_v {s j : Nat} {g g' : xH} (G : Gr (fun r k => r = s ∧ k = j) g g') {r : Nat} (hr : r < hnx g) (hs : r ≠ s) (k : Nat) : hI g' r k = hI g r k ∧ hJ g' r k = hJ g r k := ⟨(G.2 r k hr (fun z => hs z.1)).1, (G.2 r k hr (fun z => hs z.1)).2.1⟩
theorem gk_r {s j : Nat} {g g' : xH} (G : Gr (fun r k => r = s ∧ k = j) g g') (hs : s < hnx g) {i : Nat} (hi : i ≠ j) : hR g' s i = hR g s i ∧ hI g' s i = hI g s i := ⟨(G.2 s i hs (fun z => hi z.2)).2.2, (G.2 s i hs (fun z => hi z.2)).1⟩
def AS (s r k : Nat) : Prop := r = s ∧ 1 ≤ k ∧ k ≤ 5
theorem c_makeRoom {h : xH} {s cap need : Nat} {ks : List Kn} (S : Sh h s cap) (K : Ks h s ks) (hc : ks.length ≤ cap) (hcap : cap ≤ 30000) (hneed : need ≤ 60000) : ∃ h' cap', fX4_makeRoom s (i32 (need : Int)) h = some ((), h') ∧ Sh h' s cap' ∧ Ks h' s ks ∧ need ≤ cap' ∧ cap' = (if cap < need then (if need < 2 * cap then 2 * cap else need) else cap) ∧ (∀ j, 1 ≤ j → j ≤ 5 → hR h' s j = hR h s j ∨ hnx h ≤ hR h' s j) ∧ Gr (AS s) h h' ∧ h'.1 = h.1 ++ (if cap < need then [(9, cap'), (9, cap'), (9, cap'), (9, cap'), (8, cap')] else []) := by
  have hs := kc_lt S.1 (by decide)
  unfold fX4_makeRoom
  rw [if_pos S.1, if_pos (S.2.1 1 (by decide) (by decide)).1, (S.2.1 1 (by decide) (by decide)).2, ofNat_i]
  by_cases c : cap < need
  · rw [if_pos ((i32_lt ⟨by omega, by omega⟩ ⟨by omega, by omega⟩).mpr (by omega)), two32, i32_mul, c_max ⟨by omega, by omega⟩ ⟨by omega, by omega⟩, bd_some]
    obtain ⟨N, eN⟩ : ∃ N : Nat, N = (if need < 2 * cap then 2 * cap else need) := ⟨_, rfl⟩
    have e0 : (if (need : Int) < 2 * (cap : Int) then 2 * (cap : Int) else (need : Int)) = (N : Int) := by
      rw [eN]; split <;> split <;> omega
    have hN1 : cap < N ∧ N ≤ 60000 ∧ need ≤ N := by rw [eN]; split <;> omega
    rw [e0]
    have r1 := S.2.1 1 (by decide) (by decide)
    have r2 := S.2.1 2 (by decide) (by decide)
    have r3 := S.2.1 3 (by decide) (by decide)
    have r4 := S.2.1 4 (by decide) (by decide)
    have r5 := S.2.2.1
    have l2 := kc_lt r2.1 (by decide)
    have l3 := kc_lt r3.1 (by decide)
    have l4 := kc_lt r4.1 (by decide)
    have l5 := kc_lt r5.1 (by decide)
    have n2 : hR h s 2 ≠ s := fun z => by have := r2.1; rw [z, S.1] at this; omega
    have n3 : hR h s 3 ≠ s := fun z => by have := r3.1; rw [z, S.1] at this; omega
    have n4 : hR h s 4 ≠ s := fun z => by have := r4.1; rw [z, S.1] at this; omega
    have n5 : hR h s 5 ≠ s := fun z => by have := r5.1; rw [z, S.1] at this; omega
    obtain ⟨q1, E1, G1, A1, B1, C1, D1, X1, S1, Z1⟩ := grow_J (j := 1) S.1 r1.1 r1.2 hN1.1 hN1.2.1
    rw [E1, bd_some, lt_def]
    generalize sR q1 s 1 (hnx h) = g1 at *
    have t2 : hR g1 s 2 = hR h s 2 := (gk_r G1 hs (by decide)).1
    have u2 := gk_c G1 l2
    obtain ⟨q2, E2, G2, A2, B2, C2, D2, X2, S2, Z2⟩ := grow_J (j := 2) (a := hR g1 s 2) S1 (by rw [t2, u2.1]; exact r2.1) (by rw [t2, u2.2]; exact r2.2) hN1.1 hN1.2.1
    rw [E2, bd_some, lt_def]
    generalize sR q2 s 2 (hnx g1) = g2 at *
    have t3 : hR g2 s 3 = hR h s 3 := by rw [(gk_r G2 (by omega) (by decide)).1, (gk_r G1 hs (by decide)).1]
    have u3 : kc g2 (hR h s 3) = 9 ∧ kl g2 (hR h s 3) = cap := by rw [(gk_c G2 (by omega)).1, (gk_c G2 (by omega)).2, (gk_c G1 l3).1, (gk_c G1 l3).2]; exact r3
    obtain ⟨q3, E3, G3, A3, B3, C3, D3, X3, S3, Z3⟩ := grow_J (j := 3) (a := hR g2 s 3) S2 (by rw [t3]; exact u3.1) (by rw [t3]; exact u3.2) hN1.1 hN1.2.1
    rw [E3, bd_some, lt_def]
    generalize sR q3 s 3 (hnx g2) = g3 at *
    have t4 : hR g3 s 4 = hR h s 4 := by rw [(gk_r G3 (by omega) (by decide)).1, (gk_r G2 (by omega) (by decide)).1, (gk_r G1 hs (by decide)).1]
    have u4 : kc g3 (hR h s 4) = 9 ∧ kl g3 (hR h s 4) = cap := by rw [(gk_c G3 (by omega)).1, (gk_c G3 (by omega)).2, (gk_c G2 (by omega)).1, (gk_c G2 (by omega)).2, (gk_c G1 l4).1, (gk_c G1 l4).2]; exact r4
    obtain ⟨q4, E4, G4, A4, B4, C4, D4, X4, S4, Z4⟩ := grow_J (j := 4) (a := hR g3 s 4) S3 (by rw [t4]; exact u4.1) (by rw [t4]; exact u4.2) hN1.1 hN1.2.1
    rw [E4, bd_some, lt_def]
    generalize sR q4 s 4 (hnx g3) = g4 at *
    have t5 : hR g4 s 5 = hR h s 5 := by rw [(gk_r G4 (by omega) (by decide)).1, (gk_r G3 (by omega) (by decide)).1, (gk_r G2 (by omega) (by decide)).1, (gk_r G1 hs (by decide)).1]
    have u5 : kc g4 (hR h s 5) = 8 ∧ kl g4 (hR h s 5) = cap := by rw [(gk_c G4 (by omega)).1, (gk_c G4 (by omega)).2, (gk_c G3 (by omega)).1, (gk_c G3 (by omega)).2, (gk_c G2 (by omega)).1, (gk_c G2 (by omega)).2, (gk_c G1 l5).1, (gk_c G1 l5).2]; exact r5
    obtain ⟨q5, E5, G5, A5, B5, C5, D5, X5, S5, Z5⟩ := grow_I (j := 5) (a := hR g4 s 5) S4 (by rw [t5]; exact u5.1) (by rw [t5]; exact u5.2) hN1.1 hN1.2.1
    rw [E5, bd_some, lt_def]
    generalize sR q5 s 5 (hnx g4) = g5 at *
    have w1 : hR g5 s 1 = hnx h := by rw [(gk_r G5 (by omega) (by decide)).1, (gk_r G4 (by omega) (by decide)).1, (gk_r G3 (by omega) (by decide)).1, (gk_r G2 (by omega) (by decide)).1, A1]
    have w2 : hR g5 s 2 = hnx g1 := by rw [(gk_r G5 (by omega) (by decide)).1, (gk_r G4 (by omega) (by decide)).1, (gk_r G3 (by omega) (by decide)).1, A2]
    have w3 : hR g5 s 3 = hnx g2 := by rw [(gk_r G5 (by omega) (by decide)).1, (gk_r G4 (by omega) (by decide)).1, A3]
    have w4 : hR g5 s 4 = hnx g3 := by rw [(gk_r G5 (by omega) (by decide)).1, A4]
    have k1 : kc g5 (hnx h) = 9 ∧ kl g5 (hnx h) = N := by rw [(gk_c G5 (by omega)).1, (gk_c G5 (by omega)).2, (gk_c G4 (by omega)).1, (gk_c G4 (by omega)).2, (gk_c G3 (by omega)).1, (gk_c G3 (by omega)).2, (gk_c G2 (by omega)).1, (gk_c G2 (by omega)).2]; exact ⟨B1, C1⟩
    have k2 : kc g5 (hnx g1) = 9 ∧ kl g5 (hnx g1) = N := by rw [(gk_c G5 (by omega)).1, (gk_c G5 (by omega)).2, (gk_c G4 (by omega)).1, (gk_c G4 (by omega)).2, (gk_c G3 (by omega)).1, (gk_c G3 (by omega)).2]; exact ⟨B2, C2⟩
    have k3 : kc g5 (hnx g2) = 9 ∧ kl g5 (hnx g2) = N := by rw [(gk_c G5 (by omega)).1, (gk_c G5 (by omega)).2, (gk_c G4 (by omega)).1, (gk_c G4 (by omega)).2]; exact ⟨B3, C3⟩
    have k4 : kc g5 (hnx g3) = 9 ∧ kl g5 (hnx g3) = N := by rw [(gk_c G5 (by omega)).1, (gk_c G5 (by omega)).2]; exact ⟨B4, C4⟩
    have v1 : ∀ k, k < cap → hJ g5 (hnx h) k = hJ h (hR h s 1) k := fun k hk => by rw [(gk_v G5 (by omega) (by omega) k).2, (gk_v G4 (by omega) (by omega) k).2, (gk_v G3 (by omega) (by omega) k).2, (gk_v G2 (by omega) (by omega) k).2, D1 k hk]
    have v2 : ∀ k, k < cap → hJ g5 (hnx g1) k = hJ h (hR h s 2) k := fun k hk => by rw [(gk_v G5 (by omega) (by omega) k).2, (gk_v G4 (by omega) (by omega) k).2, (gk_v G3 (by omega) (by omega) k).2, D2 k hk, t2, (gk_v G1 l2 n2 k).2]
    have v3 : ∀ k, k < cap → hJ g5 (hnx g2) k = hJ h (hR h s 3) k := fun k hk => by rw [(gk_v G5 (by omega) (by omega) k).2, (gk_v G4 (by omega) (by omega) k).2, D3 k hk, t3, (gk_v G2 (by omega) n3 k).2, (gk_v G1 l3 n3 k).2]
    have v4 : ∀ k, k < cap → hJ g5 (hnx g3) k = hJ h (hR h s 4) k := fun k hk => by rw [(gk_v G5 (by omega) (by omega) k).2, D4 k hk, t4, (gk_v G3 (by omega) n4 k).2, (gk_v G2 (by omega) n4 k).2, (gk_v G1 l4 n4 k).2]
    have v5 : ∀ k, k < cap → hI g5 (hnx g4) k = hI h (hR h s 5) k := fun k hk => by rw [D5 k hk, t5, (gk_v G4 (by omega) n5 k).1, (gk_v G3 (by omega) n5 k).1, (gk_v G2 (by omega) n5 k).1, (gk_v G1 l5 n5 k).1]
    have m : ∀ j, 1 ≤ j → j ≤ 5 → ∀ r k, (r = s ∧ k = j) → AS s r k := fun j a b r k z => ⟨z.1, by omega, by omega⟩
    refine ⟨g5, N, rfl, ⟨S5, fun j h1 h2 => ?_, by rw [A5]; exact ⟨B5, C5⟩, fun i j h1 h2 h3 => ?_⟩, ⟨?_, fun i k e => ?_⟩, hN1.2.2, by rw [if_pos c, eN], fun j h1 h2 => Or.inr ?_, ((((G1.mono (m 1 (by decide) (by decide))).tr (G2.mono (m 2 (by decide) (by decide)))).tr (G3.mono (m 3 (by decide) (by decide)))).tr (G4.mono (m 4 (by decide) (by decide)))).tr (G5.mono (m 5 (by decide) (by decide))), by rw [if_pos c, Z5, Z4, Z3, Z2, Z1]; simp only [List.append_assoc, List.cons_append, List.nil_append]⟩
    · rcases (show j = 1 ∨ j = 2 ∨ j = 3 ∨ j = 4 by omega) with z | z | z | z <;> rw [z]
      · rw [w1]; exact k1
      · rw [w2]; exact k2
      · rw [w3]; exact k3
      · rw [w4]; exact k4
    · have hv : ∀ j, 1 ≤ j → j ≤ 4 → hR g5 s j = hnx h + (j - 1) := by
        intro j a b
        rcases (show j = 1 ∨ j = 2 ∨ j = 3 ∨ j = 4 by omega) with z | z | z | z <;> rw [z]
        · rw [w1]; omega
        · rw [w2]; omega
        · rw [w3]; omega
        · rw [w4]; omega
      rw [hv i h1 (by omega), hv j (by omega) h3]; omega
    · rw [(gk_r G5 (by omega) (by decide)).2, (gk_r G4 (by omega) (by decide)).2, (gk_r G3 (by omega) (by decide)).2, (gk_r G2 (by omega) (by decide)).2, (gk_r G1 hs (by decide)).2]; exact K.1
    · have hi : i < ks.length := (List.getElem?_eq_some_iff.mp e).1
      rw [w1, w2, w3, w4, A5, v1 i (by omega), v2 i (by omega), v3 i (by omega), v4 i (by omega), v5 i (by omega)]
      exact K.2 i k e
    · rcases (show j = 1 ∨ j = 2 ∨ j = 3 ∨ j = 4 ∨ j = 5 by omega) with z | z | z | z | z <;> rw [z]
      · rw [w1]; omega
      · rw [w2]; omega
      · rw [w3]; omega
      · rw [w4]; omega
      · rw [A5]; omega
  · rw [if_neg (fun z => c (by have := (i32_lt ⟨by omega, by omega⟩ ⟨by omega, by omega⟩).mp z; omega))]
    exact ⟨h, cap, rfl, S, K, by omega, by rw [if_neg c], fun j _ _ => Or.inl rfl, Gr.rf h, by rw [if_neg c, List.append_nil]⟩
