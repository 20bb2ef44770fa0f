/-! THE REFERENCE'S end -/
def SideB (ps : List Pie) (sd : Bool) (x : Rat) (a : Int) : Prop := (a = -1 ∧ ∀ o, ¬ Pk sd x ps o) ∨ ∃ o : Nat, a = o ∧ Pk sd x ps o
theorem take_mem {ps : List Pie} {k : Nat} {pc : Pie} (hg : ps[k]? = some pc) (q : Pie) : q ∈ ps.take (k + 1) ↔ q ∈ ps.take k ∨ q = pc := by
  rw [List.take_succ, hg, List.mem_append]
  simp
theorem SideB.keep {ps : List Pie} {sd : Bool} {x : Rat} {a : Int} {k : Nat} {pc : Pie} (u : SideB (ps.take k) sd x a) (hg : ps[k]? = some pc) (c : ¬ (bey sd x pc.1 ∧ ¬ bey sd x pc.2.1)) : SideB (ps.take (k + 1)) sd x a := by
  rcases u with ⟨e, u⟩ | ⟨o, e, q, hq, r⟩
  · refine Or.inl ⟨e, fun o z => ?_⟩
    obtain ⟨q, hq, r⟩ := z
    rcases (take_mem hg q).mp hq with y | y
    · exact u o ⟨q, y, r⟩
    · rw [y] at r; exact c r.2
  · exact Or.inr ⟨o, e, q, (take_mem hg q).mpr (Or.inl hq), r⟩
theorem SideB.set {ps : List Pie} {sd : Bool} {x : Rat} {k : Nat} {pc : Pie} (hg : ps[k]? = some pc) (c : bey sd x pc.1 ∧ ¬ bey sd x pc.2.1) : SideB (ps.take (k + 1)) sd x pc.2.2 := Or.inr ⟨pc.2.2, rfl, pc, (take_mem hg pc).mpr (Or.inr rfl), rfl, c⟩
def finE (p q : Int64) (a5 a6 : Int32) (h : xH) : Option (Unit × xH) := bd (fX7_leastAt 220 p q h) (fun w4 g2 =>
  if a5 = (-1 : Int32) then (fX7_end_b159 220 p q a5 a6 w4 g2)
  else (bd (fX7_lieAt 220 w4 a5 p q g2) (fun w8 g6 => if 0 ≤ w8 then (fX7_end_b182 220 p q a5 a6 w4 g6) else (fX7_end_b159 220 p q a5 a6 w4 g6))))
def opB (v : Rat) (u : Option (Rat × Rat)) : Bool := match u with
  | none => true
  | some w => decide (v < w.1)
theorem loneB_op (a b : Option (Rat × Rat)) (v : Rat) : loneB a b (some v) = (opB v a && opB v b) := by cases a <;> cases b <;> rfl
section EN
variable {MA MB MC NP NQ : Int} {L : Nat → Ln} {n : Nat} {h : xH} {ks : List Kn} {x : Rat} {ps : List Pie}
theorem m_el9 (u : CxE MA MB MC NP NQ L n x h) (R : Row5 h 241 ps.reverse) (c : hI h 220 27 = i32 ps.length) (pb : PB NP NQ ps) (hps : ps.length ≤ 3200) : ∀ (d k m : Nat) (a b : Int), k + d = ps.length → d < m → SideB (ps.take k) true x a → SideB (ps.take k) false x b → ∃ a' b', fX7_end_l9 m 220 (i64 x.num) (i64 x.den) (i32 a) (i32 b) (i32 k) h = finE (i64 x.num) (i64 x.den) (i32 a') (i32 b') h ∧ SideB ps true x a' ∧ SideB ps false x b' := by
  intro d
  have q := u.2.1
  have hx := u.2.2.2.2.2
  induction d with
  | zero =>
    intro k m a b hk hm A B
    obtain ⟨m, rfl⟩ : ∃ k, m = k + 1 := ⟨m - 1, by omega⟩
    rw [List.take_of_length_le (by omega)] at A B
    refine ⟨a, b, ?_, A, B⟩
    show fX7_end_b9 _ _ _ _ _ _ _ _ = _
    unfold fX7_end_b9 finE
    rw [if_pos q.k220, c, if_pos ((i32_le ⟨by omega, by omega⟩ ⟨by omega, by omega⟩).mpr (by omega))]
  | succ d ih =>
    intro k m a b hk hm A B
    obtain ⟨m, rfl⟩ : ∃ k, m = k + 1 := ⟨m - 1, by omega⟩
    have hkl : k < ps.length := by omega
    have hg : ps[k]? = some ps[k] := List.getElem?_eq_getElem hkl
    have hpb := pb ps[k] (List.getElem_mem _)
    have r5 := Row5_get R (by rw [List.reverse_reverse]; exact hg)
    generalize ps[k] = pc at *
    have e0 : (i32 (5 * (k : Int))).toNatClampNeg = 5 * k := by rw [i32_nat (by omega) (by omega)]; omega
    have e1 : (i32 (5 * (k : Int) + 1)).toNatClampNeg = 5 * k + 1 := by rw [i32_nat (by omega) (by omega)]; omega
    have e2 : (i32 (5 * (k : Int) + 2)).toNatClampNeg = 5 * k + 2 := by rw [i32_nat (by omega) (by omega)]; omega
    have e3 : (i32 (5 * (k : Int) + 3)).toNatClampNeg = 5 * k + 3 := by rw [i32_nat (by omega) (by omega)]; omega
    have e4 : (i32 (5 * (k : Int) + 4)).toNatClampNeg = 5 * k + 4 := by rw [i32_nat (by omega) (by omega)]; omega
    have x0 : ix (i32 (5 * (k : Int))) 16000 := ix_i (by omega) (by omega) (by decide)
    have x1 : ix (i32 (5 * (k : Int) + 1)) 16000 := ix_i (by omega) (by omega) (by decide)
    have x2 : ix (i32 (5 * (k : Int) + 2)) 16000 := ix_i (by omega) (by omega) (by decide)
    have x3 : ix (i32 (5 * (k : Int) + 3)) 16000 := ix_i (by omega) (by omega) (by decide)
    have x4 : ix (i32 (5 * (k : Int) + 4)) 16000 := ix_i (by omega) (by omega) (by decide)
    have M1 := m_lieR h u.1.2.2.1 u.1.2.2.2 hpb.1 hx
    have M2 := m_lieR h u.1.2.2.1 u.1.2.2.2 hpb.2.1 hx
    have b97 : ∀ a1 : Int, SideB (ps.take (k + 1)) true x a1 → ∃ a' b', fX7_end_b97 (fX7_end_l9 m) (i32 a1) 220 (i64 x.num) (i64 x.den) (i32 b) (i32 k) (i32 (5 * (k : Int))) (i32 (sg (pc.1.num * x.den - x.num * pc.1.den))) (i32 (sg (pc.2.1.num * x.den - x.num * pc.2.1.den))) h = finE (i64 x.num) (i64 x.den) (i32 a') (i32 b') h ∧ SideB ps true x a' ∧ SideB ps false x b' := by
      intro a1 A1
      unfold fX7_end_b97 fX7_end_b122 fX7_end_b124
      have nx : ∀ v : Int32, (lt (i32 k + 1) fun v1 => fX7_end_l9 m 220 (i64 x.num) (i64 x.den) (i32 a1) v v1 h) = fX7_end_l9 m 220 (i64 x.num) (i64 x.den) (i32 a1) v (i32 ((k + 1 : Nat) : Int)) h := by
        intro v; rw [lt_def, one32, i32_add]; rfl
      by_cases c1 : x < pc.1
      · rw [if_pos ((si_gt _).mpr (sr_gt.mpr c1)), nx]
        exact ih (k + 1) m a1 b (by omega) (by omega) A1 (B.keep hg (fun z => by have := z.1; unfold bey at this; simp at this; grind))
      · rw [if_neg (fun z => c1 (sr_gt.mp ((si_gt _).mp z)))]
        by_cases c2 : pc.2.1 ≤ x
        · rw [if_pos ((si_le _).mpr (sr_le.mpr c2)), nx]
          exact ih (k + 1) m a1 b (by omega) (by omega) A1 (B.keep hg (fun z => by have := z.2; unfold bey at this; simp at this; grind))
        · rw [if_neg (fun z => c2 (sr_le.mp ((si_le _).mp z)))]
          simp only [q.k220, q.r28, q.k241, q.l241, fou32, i32_add, if_pos x4, e4, r5.2.2.2.2, i32_of64, reduceIte]
          rw [nx]
          exact ih (k + 1) m a1 pc.2.2 (by omega) (by omega) A1 (SideB.set hg ⟨by unfold bey; simp; grind, by unfold bey; simp; grind⟩)
    show ∃ a' b', fX7_end_b9 _ _ _ _ _ _ _ _ = _ ∧ _
    unfold fX7_end_b9
    rw [if_pos q.k220, c, if_neg (fun z => by have := (i32_le ⟨by omega, by omega⟩ ⟨by omega, by omega⟩).mp z; omega)]
    simp only [lt_def, q.r28, q.k241, q.l241, fiv32, i32_mul, one32, two32, thr32, fou32, i32_add, if_pos x0, if_pos x1, if_pos x2, if_pos x3, if_pos x4, e0, e1, e2, e3, e4, r5.1, r5.2.1, r5.2.2.1, r5.2.2.2.1, r5.2.2.2.2, i32_of64, M1, M2, bd_some, reduceIte]
    unfold fX7_end_b95
    by_cases c1 : x ≤ pc.1
    · rw [if_pos ((si_ge _).mpr (sr_ge.mpr c1))]
      exact b97 a (A.keep hg (fun z => by have := z.1; unfold bey at this; simp at this; grind))
    · rw [if_neg (fun z => c1 (sr_ge.mp ((si_ge _).mp z)))]
      by_cases c2 : pc.2.1 < x
      · rw [if_pos ((si_lt _).mpr (sr_lt.mpr c2))]
        exact b97 a (A.keep hg (fun z => by have := z.2; unfold bey at this; simp at this; grind))
      · rw [if_neg (fun z => c2 (sr_lt.mp ((si_lt _).mp z)))]
        exact b97 pc.2.2 (SideB.set hg ⟨by unfold bey; simp; grind, by unfold bey; simp; grind⟩)
theorem m_fin (u : CxE MA MB MC NP NQ L n x h) {a b : Int} {ua ub : Option (Rat × Rat)} {e : Nat} (he : e < n) (E : fX7_leastAt 220 (i64 x.num) (i64 x.den) h = some (i32 e, h)) (ha : SdI L n x a ua) (hb : SdI L n x b ub) : finE (i64 x.num) (i64 x.den) (i32 a) (i32 b) h = fX7_end_b183 (bz (loneB ua ub (some (vl (L e) x)))) 220 (i64 x.num) (i64 x.den) (i32 a) (i32 b) (i32 e) h := by
  have hn := u.2.2.2.1
  have b159 : fX7_end_b159 220 (i64 x.num) (i64 x.den) (i32 a) (i32 b) (i32 e) h = fX7_end_b183 (bz (opB (vl (L e) x) ub)) 220 (i64 x.num) (i64 x.den) (i32 a) (i32 b) (i32 e) h := by
    unfold fX7_end_b159 fX7_end_b178 fX7_end_b182
    rcases hb with ⟨e1, e2⟩ | ⟨o, e1, ho, e2⟩
    · rw [e1, e2, if_pos m1_32.symm]; rfl
    · obtain ⟨z, E1, A, C⟩ := m_lieAt u.1 u.2.1 u.2.2.1 hn he ho (u.2.2.2.2.1 e he) (u.2.2.2.2.1 o ho) u.2.2.2.2.2
      rw [e1, e2, if_neg (ne_m1 (by omega)), if_pos u.2.1.k220, E1, bd_some]
      by_cases c1 : vl (L e) x < vl (L o) x
      · rw [if_neg (fun y => by have := A.mpr c1; have := (si_ge _).mp y; omega)]
        unfold opB
        simp only [c1, decide_true]; rfl
      · rw [if_pos ((si_ge _).mpr (by have : ¬ sg z < 0 := fun y => c1 (A.mp y); omega))]
        unfold opB
        simp only [c1, decide_false]; rfl
  unfold finE
  rw [E, bd_some, loneB_op]
  rcases ha with ⟨e1, e2⟩ | ⟨o, e1, ho, e2⟩
  · rw [if_pos (by rw [e1]; rfl), b159, e2]
    rfl
  · obtain ⟨z, E1, A, C⟩ := m_lieAt u.1 u.2.1 u.2.2.1 hn he ho (u.2.2.2.2.1 e he) (u.2.2.2.2.1 o ho) u.2.2.2.2.2
    rw [← e1] at E1
    rw [if_neg (by rw [e1]; exact ne_m1 (by omega)), E1, bd_some, e2]
    by_cases c1 : vl (L e) x < vl (L o) x
    · rw [if_neg (fun y => by have := A.mpr c1; have := (si_ge _).mp y; omega), b159]
      have : opB (vl (L e) x) (some (vl (L o) x, sl (L o))) = true := by unfold opB; simp only [c1, decide_true]
      rw [this, Bool.true_and]
    · rw [if_pos ((si_ge _).mpr (by have : ¬ sg z < 0 := fun y => c1 (A.mp y); omega))]
      have : opB (vl (L e) x) (some (vl (L o) x, sl (L o))) = false := by unfold opB; simp only [c1, decide_false]
      rw [this, Bool.false_and]
      rfl
theorem Sp_ex (L : Nat → Ln) (x : Rat) : ∀ n, ∃ c, Sp L n x c
  | 0 => ⟨none, fun k hk => by omega⟩
  | n + 1 => by
    obtain ⟨c, hc⟩ := Sp_ex L x n
    by_cases z : isLone L x n
    · cases c with
      | none =>
        refine ⟨some (vl (L n) x), ⟨n, by omega, z, rfl⟩, fun k hk ik => ?_⟩
        by_cases y : k = n
        · rw [y]; grind
        · exact absurd ik (hc k (by omega))
      | some v =>
        obtain ⟨⟨k, hk, ik, ev⟩, hm⟩ := hc
        by_cases y : v ≤ vl (L n) x
        · refine ⟨some v, ⟨k, by omega, ik, ev⟩, fun j hj ij => ?_⟩
          by_cases t : j = n
          · rw [t]; exact y
          · exact hm j (by omega) ij
        · refine ⟨some (vl (L n) x), ⟨n, by omega, z, rfl⟩, fun j hj ij => ?_⟩
          by_cases t : j = n
          · rw [t]; grind
          · have := hm j (by omega) ij; grind
    · cases c with
      | none =>
        refine ⟨none, fun k hk ik => ?_⟩
        by_cases y : k = n
        · rw [y] at ik; exact z ik
        · exact hc k (by omega) ik
      | some v =>
        obtain ⟨⟨k, hk, ik, ev⟩, hm⟩ := hc
        refine ⟨some v, ⟨k, by omega, ik, ev⟩, fun j hj ij => ?_⟩
        by_cases t : j = n
        · rw [t] at ij; exact absurd ij z
        · exact hm j (by omega) ij
theorem side_sd {sd : Bool} {a : Int} (env : EnvN L n ps) (A : SideB ps sd x a) : ∃ ua, SdI L n x a ua ∧ Sd L n sd x ua := by
  rcases A with ⟨e, u⟩ | ⟨o, e, p⟩
  · exact ⟨none, Or.inl ⟨e, rfl⟩, fun o ho => u o ((env.2 sd x o).mpr ho)⟩
  · have lo := (env.2 sd x o).mp p
    exact ⟨some (vl (L o) x, sl (L o)), Or.inr ⟨o, e, lo.1, rfl⟩, ⟨o, lo, rfl⟩⟩
theorem m_end (u : CxE MA MB MC NP NQ L n x h) (kb : MB * MC ≤ 4611686018427387904) (bF : ∀ k, k < n → B32 (lnF (L k)) ∧ B32 (lnT (L k)) ∧ Pt NP NQ (lnF (L k)) ∧ Pt NP NQ (lnT (L k))) (c19 : hI h 220 19 = i32 n) (env : EnvN L n ps) (R : Row5 h 241 ps.reverse) (c : hI h 220 27 = i32 ps.length) (pb : PB NP NQ ps) (hps : ps.length ≤ 3200) (hc : ∃ m, m < n ∧ cov L x m) (K : Kp h ks) (hs : ∀ k, KA L n x k → ks.length + k.length ≤ 1600) : ∃ h' k, fX7_end 220 (i64 x.num) (i64 x.den) h = some ((), h') ∧ KA L n x k ∧ Kp h' (ks ++ k) ∧ Fr AK h h' := by
  obtain ⟨a, b, G, A, B⟩ := m_el9 u R c pb hps ps.length 0 FU (-1) (-1) (by omega) (by rw [FU_eq]; omega) (Or.inl ⟨rfl, fun o z => by obtain ⟨q, hq, _⟩ := z; simp at hq⟩) (Or.inl ⟨rfl, fun o z => by obtain ⟨q, hq, _⟩ := z; simp at hq⟩)
  obtain ⟨ua, Ia, Sa⟩ := side_sd env A
  obtain ⟨ub, Ib, Sb⟩ := side_sd env B
  obtain ⟨c', Sc⟩ := Sp_ex L x n
  obtain ⟨e', E, Le⟩ := m_leastAt u.1 u.2.1 u.2.2.1 u.2.2.2.1 u.2.2.2.2.1 bF c19 u.2.2.2.2.2
  rcases Le with ⟨_, no⟩ | ⟨e, ee, he, ce, le⟩
  · obtain ⟨m, hm, cm⟩ := hc
    exact absurd cm (no m hm)
  rw [ee] at E
  have lq := lone_eq Sa Sb Sc he ce le
  have ka : KA L n x (kno x ua ub c') := ⟨ua, ub, c', Sa, Sb, Sc, rfl⟩
  have hs' := hs _ ka
  rw [← lq] at hs'
  obtain ⟨h', G2, K2, F2⟩ := m_e183 u kb Ia Ib he K hs'
  refine ⟨h', kno x ua ub c', ?_, ka, by rw [← lq]; exact K2, F2⟩
  unfold fX7_end
  rw [lt_def, lt_def, lt_def, m1_32, show (0 : Int32) = i32 ((0 : Nat) : Int) from rfl, G, m_fin u he E Ia Ib, G2]
end EN
