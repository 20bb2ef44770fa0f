/-! THE CLASS LAYS ITS LINES ON PAPER -/
theorem ck67 {r : Nat} (b1 : 67 ≤ r) (b2 : r ≤ 93) : ∃ x, ckd r = some x := by
  rcases (show r = 67 ∨ r = 68 ∨ r = 69 ∨ r = 70 ∨ r = 71 ∨ r = 72 ∨ r = 73 ∨ r = 74 ∨ r = 75 ∨ r = 76 ∨ r = 77 ∨ r = 78 ∨ r = 79 ∨ r = 80 ∨ r = 81 ∨ r = 82 ∨ r = 83 ∨ r = 84 ∨ r = 85 ∨ r = 86 ∨ r = 87 ∨ r = 88 ∨ r = 89 ∨ r = 90 ∨ r = 91 ∨ r = 92 ∨ r = 93 by omega) with e | e | e | e | e | e | e | e | e | e | e | e | e | e | e | e | e | e | e | e | e | e | e | e | e | e | e <;> rw [e] <;> exact ⟨_, rfl⟩
theorem crf_lo {r k : Nat} (h1 : 67 ≤ r) (h2 : r ≠ 91) (h3 : (k = 0 ∨ 7 ≤ k) ∨ (r ≠ 67 ∧ r ≠ 74 ∧ r ≠ 81)) : crf r k = none := by
  unfold crf
  split <;> first | rfl | omega
theorem frc_no {r : Nat} (b1 : 67 ≤ r) (b2 : r ≤ 93) : ¬ FrC r := fun z => by
  obtain ⟨x, e⟩ := ck67 b1 b2
  have := z.2.1
  rw [e] at this; cases this
section ON
variable {h h1 : xH} {S : Ast} {cap : Nat → Nat} {lst : Nat → List Kn}
theorem c_ontoP {A : Nat → Nat → Prop} {act : Int} {sps : List Spn} (hl : sps.length ≤ 31) (hb : ∀ p ∈ sps, SpB p) (c1 : ClI h cap lst (aU S) (aI S)) (c2 : ∀ i, i < 7 → lst i = aC S i) (c3 : Room h cap) (c5 : CSm h S) (F : Fr A h h1) (hA : ∀ r k, A r k → 67 ≤ r ∧ r ≤ 93 ∧ crf r k = none) (w : CLl h1 67 (sps.map lby)) : ∃ g ks, fX6_ontoPaper 2 (i32 act) h1 = some (i32 (ks.length : Int), g) ∧ PaperIs (lnn (sps.map lby)) (sps.map lby).length ks ∧ CSt g (actA S act 6 ks) ∧ Out h g := by
  have I1 : ShI h1 cap lst := c1.1.fr F (fun r k fr z => frc_no (hA r k z).1 (hA r k z).2.1 fr)
  have co1 := I1.1
  have es : sh h1 7 = sh h 7 := F.ehR 2 1
  have W1 := I1.2.1 7 (by decide)
  rw [es] at W1
  have fx : ∀ r k, AX h1 (sh h 7) r k → FrC r := fun r k z => I1.2.2.2.1 7 (by decide) r k (by rw [es]; exact z)
  have ap : Apt h1 (sh h 7) 67 := fun j hj => ⟨fun e => frc_no (r := 67 + j) (by omega) (by omega) (fx (67 + j) 0 (Or.inl e)), fun i a b e => frc_no (r := 67 + j) (by omega) (by omega) (fx (67 + j) 0 (Or.inr ⟨i, a, b, e⟩))⟩
  obtain ⟨g2, cap', ks, E2, W2, P2, T2⟩ := c_lowestInto (few_co hl hb (M := 288) (by decide) (by decide)) (by decide) (show LX h1 67 288 _ _ (sh h 7) from ⟨co1.lo67, w.c, w.1, ap⟩) W1
  have hn : hnx h1 = hnx h := by unfold hnx; rw [F.1]
  have ax : ∀ r k, AX h1 (sh h 7) r k → AX h (sh h 7) r k := fun r k z => by
    rcases z with z | ⟨j, a, b, z⟩
    · exact Or.inl z
    · exact Or.inr ⟨j, a, b, by rw [z]; exact F.ehR _ _⟩
  have G : Gr (fun r k => AX h (sh h 7) r k ∨ (A r k ∨ AL 67 r k)) h g2 := (F.gr.mono (fun r k z => Or.inr (Or.inl z))).tr (T2.2.2.mono (fun r k z => by
    rcases z with z | z
    · exact Or.inl (ax r k z)
    · exact Or.inr (Or.inr z)))
  obtain ⟨g3, E3, C3, O3⟩ := c_act (B := fun r k => A r k ∨ AL 67 r k) (slot := 6) (act := act) c1 c2 c3 (by decide) c5 ((Rm.same F.1 _).tr T2.1) (fun j a b => by
    rcases T2.2.1 j a b with z | z
    · exact Or.inl (z.trans (F.ehR _ _))
    · exact Or.inr (by rw [← hn]; exact z)) G (fun r k z => by
    rcases z with z | z
    · exact hA r k z
    · unfold AL at z
      exact ⟨by omega, by omega, crf_lo (by omega) (by omega) (by omega)⟩) W2
  refine ⟨g3, ks, ?_, P2, C3, O3⟩
  have E2' : fX1_lowestInto 67 (hR h1 2 1) h1 = some ((), g2) := by
    have e1 : hR h1 2 1 = sh h 7 := es
    rw [e1]; exact E2
  have E3' : fX6_settle 2 (i32 act) 6 g2 = some (i32 (ks.length : Int), g3) := E3
  unfold fX6_ontoPaper
  rw [if_pos co1.k2, co1.r2_8, if_pos co1.lo67.1, E2', bd_some, E3', bd_some]
end ON
