/-! ONTO PAPER, whatever the lines; what the class asks of the lines of one store -/
theorem dis_co {ll : List Ln} {MA MB MC : Int} (hl : ll.length ≤ 31) (pw : ll.Pairwise (fun p q => lnT p ≤ lnF q)) (hb : ∀ l ∈ ll, LBd MA MB MC l ∧ (-5940 ≤ lnF l ∧ lnF l ≤ 5940) ∧ (-5940 ≤ lnT l ∧ lnT l ≤ 5940) ∧ lnF l ≤ lnT l) (kk : KonC MA MB MC 5940) (km : MC ≤ 4611686018427387904) : CO MA MB MC 5940 5940 1 (lnn ll) ll.length 288 := by
  have at0 : ∀ k, k < ll.length → lnn ll k ∈ ll := fun k hk => List.mem_of_getElem? (lnn_at hk)
  refine ⟨kk, by omega, by decide, fun k hk => (hb _ (at0 k hk)).1, km, fun k hk => (hb _ (at0 k hk)).2, by decide, by decide, by decide, by decide, fun o m ho hm z => ?_, fun ks hp => ?_⟩
  · obtain ⟨x, h1, h2⟩ := z
    rcases Nat.lt_trichotomy o m with c | c | c
    · exact absurd (dis_lv pw c hm h2 h1) id
    · rw [c]
      unfold XB Q
      rw [Int.sub_self, Int.sub_self, Int.sub_self]
      decide
    · exact absurd (dis_lv pw c ho h1 h2) id
  · have := knots_few hp hl; omega
section GG
variable {h h1 : xH} {S : Ast} {cap : Nat → Nat} {lst : Nat → List Kn}
theorem m_ontoG {act : Int} {ll : List Ln} {MA MB MC NP NQ : Int} (lo : LOk MA MB MC NP NQ (lnn ll) ll.length) (K : AOk S) (M : MSt h S) (w : Lnl h ll) : ∃ g ks, fX7_onto 220 (i32 act) h = some (i32 (ks.length : Int), g) ∧ PaperIs (lnn ll) ll.length ks ∧ MSt g (actA S act 6 ks) ∧ Fr In220 h g := by
  obtain ⟨g4, E4, J4, F4, fin⟩ := m_told2 (act := act) K M
  have w4 : Lnl g4 ll := by
    refine ⟨by rw [(F4.2.2 220 19 (by unfold ARm; omega)).1]; exact w.1, fun k l e => ?_⟩
    rw [(F4.2.2 235 _ (by unfold ARm; omega)).1, (F4.2.2 236 _ (by unfold ARm; omega)).1, (F4.2.2 237 _ (by unfold ARm; omega)).2, (F4.2.2 238 _ (by unfold ARm; omega)).2, (F4.2.2 239 _ (by unfold ARm; omega)).2]
    exact w.2 k l e
  obtain ⟨g5, ks, E5, P5, K5, F5⟩ := m_layPaper lo J4.1 w4.l w4.1
  obtain ⟨Mf, Ff⟩ := fin AP 6 ks g5 F5 (fun r c z => by unfold AP at z; omega) (m_pap J4 F5 K5)
  refine ⟨_, ks, ?_, P5, Mf, Ff⟩
  unfold fX7_onto
  rw [if_pos M.1.1.k220, E4, bd_some, E5, bd_some, K5.2, m_tell (F5.mo J4.1), bd_some]
theorem c_ontoG {A : Nat → Nat → Prop} {act : Int} {ll : List Ln} {MA MB MC X NP NQ : Int} (cc : CO MA MB MC X NP NQ (lnn ll) ll.length 288) (c1 : ClI h cap lst (aU S) (aI S)) (c2 : ∀ i, i < 7 → lst i = aC S i) (c3 : Room h cap) (c5 : CSm h S) (F : Fr A h h1) (hA : ∀ r k, A r k → 67 ≤ r ∧ r ≤ 93 ∧ crf r k = none) (w : CLl h1 67 ll) : ∃ g ks, fX6_ontoPaper 2 (i32 act) h1 = some (i32 (ks.length : Int), g) ∧ PaperIs (lnn ll) ll.length ks ∧ CSt g (actA S act 6 ks) ∧ Out h g := by
  have I1 : ShI h1 cap lst := c1.1.fr F (fun r k fr z => frc_no (hA r k z).1 (hA r k z).2.1 fr)
  have co1 := I1.1
  have es : sh h1 7 = sh h 7 := F.ehR 2 1
  have W1 := I1.2.1 7 (by decide)
  rw [es] at W1
  have fx : ∀ r k, AX h1 (sh h 7) r k → FrC r := fun r k z => I1.2.2.2.1 7 (by decide) r k (by rw [es]; exact z)
  have ap : Apt h1 (sh h 7) 67 := fun j hj => ⟨fun e => frc_no (r := 67 + j) (by omega) (by omega) (fx (67 + j) 0 (Or.inl e)), fun i a b e => frc_no (r := 67 + j) (by omega) (by omega) (fx (67 + j) 0 (Or.inr ⟨i, a, b, e⟩))⟩
  obtain ⟨g2, cap', ks, E2, W2, P2, T2⟩ := c_lowestInto cc (by decide) (show LX h1 67 288 _ _ (sh h 7) from ⟨co1.lo67, w.c, w.1, ap⟩) W1
  have hn : hnx h1 = hnx h := by unfold hnx; rw [F.1]
  have ax : ∀ r k, AX h1 (sh h 7) r k → AX h (sh h 7) r k := fun r k z => by
    rcases z with z | ⟨j, a, b, z⟩
    · exact Or.inl z
    · exact Or.inr ⟨j, a, b, by rw [z]; exact F.ehR _ _⟩
  have G : Gr (fun r k => AX h (sh h 7) r k ∨ (A r k ∨ AL 67 r k)) h g2 := (F.gr.mono (fun r k z => Or.inr (Or.inl z))).tr (T2.2.2.mono (fun r k z => by
    rcases z with z | z
    · exact Or.inl (ax r k z)
    · exact Or.inr (Or.inr z)))
  obtain ⟨g3, E3, C3, O3⟩ := c_act (B := fun r k => A r k ∨ AL 67 r k) (slot := 6) (act := act) c1 c2 c3 (by decide) c5 ((Rm.same F.1 _).tr T2.1) (fun j a b => by
    rcases T2.2.1 j a b with z | z
    · exact Or.inl (z.trans (F.ehR _ _))
    · exact Or.inr (by rw [← hn]; exact z)) G (fun r k z => by
    rcases z with z | z
    · exact hA r k z
    · unfold AL at z
      exact ⟨by omega, by omega, crf_lo (by omega) (by omega) (by omega)⟩) W2
  refine ⟨g3, ks, ?_, P2, C3, O3⟩
  have E2' : fX1_lowestInto 67 (hR h1 2 1) h1 = some ((), g2) := by
    have e1 : hR h1 2 1 = sh h 7 := es
    rw [e1]; exact E2
  have E3' : fX6_settle 2 (i32 act) 6 g2 = some (i32 (ks.length : Int), g3) := E3
  unfold fX6_ontoPaper
  rw [if_pos co1.k2, co1.r2_8, if_pos co1.lo67.1, E2', bd_some, E3', bd_some]
theorem fin_ontoG {act : Int} {ll : List Ln} {g g' : xH} {ks : List Kn} {MA MB MC NP NQ : Int} (lo : LOk MA MB MC NP NQ (lnn ll) ll.length) (pb : PaB ks) (K : AOk S) (P : PaperIs (lnn ll) ll.length ks) (C3 : CSt g (actA S act 6 ks)) (F : Fr In220 g g') (M' : MSt g' S) (w : Lnl g' ll) : ∃ g2, fX7_onto 220 (i32 act) g' = some (i32 (ks.length : Int), g2) ∧ AOk (actA S act 6 ks) ∧ CSt g2 (actA S act 6 ks) ∧ MSt g2 (actA S act 6 ks) := by
  obtain ⟨g6, ks', E6, P6, M6, F6⟩ := m_ontoG (act := act) lo K M' w
  have ek : ks' = ks := paper_one P6 P (fun x k => Iff.rfl)
  rw [ek] at E6 M6
  exact ⟨g6, E6, K.act (K.1.paper pb ⟨_, _, P⟩), C3.inn (F.tr F6), M6⟩
end GG
