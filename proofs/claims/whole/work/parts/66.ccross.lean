/-! THE CLASS' firstCrossing -/
def FcI (L : Nat → Ln) (ls : List Nat) (o : Nat) (N b t u : Int) : Prop := (b = -1 ∧ ∀ m ∈ ls, sl (L m) < sl (L o) → (N : Rat) ≤ cr L o m) ∨ ∃ p : Nat, b = p ∧ p ∈ ls ∧ sl (L p) < sl (L o) ∧ cr L o p < (N : Rat) ∧ t = lnA (L p) * lnC (L o) - lnA (L o) * lnC (L p) ∧ u = lnB (L o) * lnC (L p) - lnB (L p) * lnC (L o) ∧ ∀ m ∈ ls, sl (L m) < sl (L o) → cr L o m < (N : Rat) → cr L o p < cr L o m ∨ (cr L o p = cr L o m ∧ sl (L p) ≤ sl (L m))
section CF
variable {MA MB MC X NP NQ : Int} {L : Nat → Ln} {n M r : Nat} {N : Int} {h : xH} {ls : List Nat}
theorem c_bottom (q : Lo h r M) (w : CLn h r L n) (hn : n ≤ M) (hM : M ≤ 60000) {k m : Nat} (hk : k < n) (hm : m < n) : fX1_crossingBottom r (i32 k) (i32 m) h = some (i64 (lnB (L k) * lnC (L m) - lnB (L m) * lnC (L k)), h) := by
  unfold fX1_crossingBottom
  have e1 := nat_i k (by omega)
  have e2 := nat_i m (by omega)
  have x1 : ix (i32 k) M := ix_i (by omega) (by omega) (by omega)
  have x2 : ix (i32 m) M := ix_i (by omega) (by omega) (by omega)
  have wk := w k hk
  have wm := w m hm
  simp only [q.1, q.2.1 4 (by decide) (by decide), q.2.1 5 (by decide) (by decide), q.2.2.2.2.2.1.1, q.2.2.2.2.2.1.2, q.2.2.2.2.2.2.1.1, q.2.2.2.2.2.2.1.2, e1, e2, if_pos x1, if_pos x2, wk.2.2.2.1, wk.2.2.2.2, wm.2.2.2.1, wm.2.2.2.2, i64_mul, i64_sub, reduceIte]
theorem c_top (q : Lo h r M) (w : CLn h r L n) (hn : n ≤ M) (hM : M ≤ 60000) {k m : Nat} (hk : k < n) (hm : m < n) : fX1_crossingTop r (i32 k) (i32 m) h = some (i64 (lnA (L m) * lnC (L k) - lnA (L k) * lnC (L m)), h) := by
  unfold fX1_crossingTop
  have e1 := nat_i k (by omega)
  have e2 := nat_i m (by omega)
  have x1 : ix (i32 k) M := ix_i (by omega) (by omega) (by omega)
  have x2 : ix (i32 m) M := ix_i (by omega) (by omega) (by omega)
  have wk := w k hk
  have wm := w m hm
  simp only [q.1, q.2.1 3 (by decide) (by decide), q.2.1 5 (by decide) (by decide), q.2.2.2.2.1.1, q.2.2.2.2.1.2, q.2.2.2.2.2.2.1.1, q.2.2.2.2.2.2.1.2, e1, e2, if_pos x1, if_pos x2, wk.2.2.1, wk.2.2.2.2, wm.2.2.1, wm.2.2.2.2, i64_mul, i64_sub, reduceIte]
theorem bot_pos {k m : Ln} (hk : 0 < lnC k) (hm : 0 < lnC m) : 0 < lnB k * lnC m - lnB m * lnC k ↔ sl m < sl k := by
  have := div_lt_div (a := lnB m) (b := lnC m) (c := lnB k) (d := lnC k) hm hk
  unfold sl
  rw [this]
  omega
theorem c_fc10 (kk : KonC MA MB MC X) (q : Lo h r M) (w : CLn h r L n) (hn : n ≤ M) (hM : M ≤ 60000) (bL : ∀ k, k < n → LBd MA MB MC (L k)) (I : LsI h r ls) (hl : ls.length ≤ n) (hls : ∀ o ∈ ls, o < n) {o : Nat} (ho : o < n) (xb : ∀ m ∈ ls, XB NP NQ (L o) (L m)) (hNP : NP ≤ 4611686018427387904) (hNQ : NQ * NQ ≤ 4611686018427387904) (hQ1 : NQ ≤ 2147483648) (c9 : hI h r 9 = i32 N) (hN : B32 N) : ∀ (d k m : Nat) (b t u : Int), k + d = ls.length → d < m → FcI L (ls.take k) o N b t u → ∃ b' t' u', fX1_firstCrossing_l10 m r (i32 o) (i32 b) (i64 t) (i64 u) (i32 k) h = some (i32 b', h) ∧ FcI L ls o N b' t' u' := by
  intro d
  have z0 : B64 0 := ⟨by decide, by decide⟩
  have Co := (bL o ho).2.2.1
  induction d with
  | zero =>
    intro k m b t u hk hm F
    obtain ⟨m, rfl⟩ : ∃ k, m = k + 1 := ⟨m - 1, by omega⟩
    rw [List.take_of_length_le (by omega)] at F
    refine ⟨b, t, u, ?_, F⟩
    show fX1_firstCrossing_b10 _ _ _ _ _ _ _ _ = _
    unfold fX1_firstCrossing_b10
    rw [if_pos q.1, I.1, if_pos ((i32_le ⟨by omega, by omega⟩ ⟨by omega, by omega⟩).mpr (by omega))]
  | succ d ih =>
    intro k m b t u hk hm F
    obtain ⟨m, rfl⟩ : ∃ k, m = k + 1 := ⟨m - 1, by omega⟩
    have hkl : k < ls.length := by omega
    have hg : ls[k]? = some ls[k] := List.getElem?_eq_getElem hkl
    have hmem : ls[k] ∈ ls := List.getElem_mem _
    have hp := hls _ hmem
    have hv := I.2 k _ hg
    have hxb := xb _ hmem
    generalize ls[k] = p at *
    have Cp := (bL p hp).2.2.1
    have e1 := nat_i k (by omega)
    have x1 : ix (i32 k) M := ix_i (by omega) (by omega) (by omega)
    have nx : ∀ (v : Int32) (a c : Int64), fX1_firstCrossing_b123 (fX1_firstCrossing_l10 m) r (i32 o) v a c (i32 k) h = fX1_firstCrossing_l10 m r (i32 o) v a c (i32 ((k + 1 : Nat) : Int)) h := by
      intro v a c; unfold fX1_firstCrossing_b123; rw [lt_def, one32, i32_add]; rfl
    have keep : (sl (L p) < sl (L o) → cr L o p < (N : Rat) → ∃ s : Nat, b = s ∧ (cr L o s < cr L o p ∨ (cr L o s = cr L o p ∧ sl (L s) ≤ sl (L p)))) → ∃ b' t' u', fX1_firstCrossing_l10 m r (i32 o) (i32 b) (i64 t) (i64 u) (i32 ((k + 1 : Nat) : Int)) h = some (i32 b', h) ∧ FcI L ls o N b' t' u' := by
      intro hk2
      refine ih (k + 1) m b t u (by omega) (by omega) ?_
      rcases F with ⟨e, F⟩ | ⟨s, e, hs, g1, g2, g3, g4, F⟩
      · refine Or.inl ⟨e, fun j hj hsl => ?_⟩
        rcases (take_memN hg j).mp hj with z | z
        · exact F j z hsl
        · rw [z] at hsl ⊢
          apply Classical.byContradiction
          intro hc
          obtain ⟨s, es, _⟩ := hk2 hsl (by grind)
          omega
      · refine Or.inr ⟨s, e, (take_memN hg s).mpr (Or.inl hs), g1, g2, g3, g4, fun j hj hsl hc => ?_⟩
        rcases (take_memN hg j).mp hj with z | z
        · exact F j z hsl hc
        · rw [z] at hsl hc ⊢
          obtain ⟨s', es, hh⟩ := hk2 hsl hc
          have : s' = s := by omega
          rw [this] at hh; exact hh
    show ∃ b' t' u', fX1_firstCrossing_b10 _ _ _ _ _ _ _ _ = _ ∧ _
    unfold fX1_firstCrossing_b10
    have Qb : Q (lnB (L o) * lnC (L p) - lnB (L p) * lnC (L o)) := ⟨by have := hxb.2.1; omega, by have := hxb.2.2; omega⟩
    have Qt : Q (lnA (L p) * lnC (L o) - lnA (L o) * lnC (L p)) := ⟨by have := hxb.1.1; omega, by have := hxb.1.2; omega⟩
    rw [if_pos q.1, I.1, if_neg (fun z => by have := (i32_le ⟨by omega, by omega⟩ ⟨by omega, by omega⟩).mp z; omega)]
    simp only [lt_def, q.2.1 6 (by decide) (by decide), q.2.2.2.2.2.2.2.1, q.2.2.2.2.2.2.2.2, if_pos x1, e1, hv, reduceIte]
    rw [c_bottom q w hn hM ho hp, bd_some, z64]
    by_cases c1 : sl (L p) < sl (L o)
    · have hbp := (bot_pos Co Cp).mpr c1
      have ecr := cr_frac (L := L) (l := o) (o := p) Co Cp (by grind)
      have BN : B64 ((lnB (L o) * lnC (L p) - lnB (L p) * lnC (L o)) * N) := by
        have := mul_b (a := lnB (L o) * lnC (L p) - lnB (L p) * lnC (L o)) (M := 2147483648) (b := N) (N := 2147483648) ⟨by omega, by have := hxb.2.2; omega⟩ ⟨by have := hN.1; omega, by have := hN.2; omega⟩
        exact ⟨by omega, by omega⟩
      have hlt : lnA (L p) * lnC (L o) - lnA (L o) * lnC (L p) < (lnB (L o) * lnC (L p) - lnB (L p) * lnC (L o)) * N ↔ cr L o p < (N : Rat) := by
        have := div_lt_div (a := lnA (L p) * lnC (L o) - lnA (L o) * lnC (L p)) (b := lnB (L o) * lnC (L p) - lnB (L p) * lnC (L o)) (c := N) (d := 1) hbp (by decide)
        rw [rat_1, ← ecr.2] at this
        rw [this, Int.mul_one, Int.mul_comm N]
      rw [if_pos ((lz_gt Qb.b z0).mpr hbp), c_top q w hn hM ho hp, bd_some, c9, i64_of32 hN, i64_mul]
      by_cases c2 : cr L o p < (N : Rat)
      · rw [if_pos ((lz_lt Qt.b BN).mpr (hlt.mpr c2))]
        have setp : (∀ j ∈ ls.take k, sl (L j) < sl (L o) → cr L o j < (N : Rat) → cr L o p < cr L o j ∨ (cr L o p = cr L o j ∧ sl (L p) ≤ sl (L j))) → ∃ b' t' u', fX1_firstCrossing_b123 (fX1_firstCrossing_l10 m) r (i32 o) (i32 p) (i64 (lnA (L p) * lnC (L o) - lnA (L o) * lnC (L p))) (i64 (lnB (L o) * lnC (L p) - lnB (L p) * lnC (L o))) (i32 k) h = some (i32 b', h) ∧ FcI L ls o N b' t' u' := by
          intro hmin
          rw [nx]
          refine ih (k + 1) m p _ _ (by omega) (by omega) (Or.inr ⟨p, rfl, (take_memN hg p).mpr (Or.inr rfl), c1, c2, rfl, rfl, fun j hj hsl hc => ?_⟩)
          rcases (take_memN hg j).mp hj with z | z
          · exact hmin j z hsl hc
          · rw [z]; right; exact ⟨rfl, by grind⟩
        unfold fX1_firstCrossing_b91 fX1_firstCrossing_b113
        rcases F with ⟨e, F⟩ | ⟨s, e, hs, g1, g2, g3, g4, F⟩
        · rw [if_neg (by rw [e]; decide), if_pos (by decide)]
          exact setp (fun j hj hsl hc => by have := F j hj hsl; grind)
        · have hsn := hls s (List.mem_of_mem_take hs)
          have hxs := xb s (List.mem_of_mem_take hs)
          have Cs := (bL s hsn).2.2.1
          have hbs := (bot_pos Co Cs).mpr g1
          have ecs := cr_frac (L := L) (l := o) (o := s) Co Cs (by grind)
          rw [← g3, ← g4] at ecs
          rw [← g4] at hbs
          have Qt2 : Q t := ⟨by rw [g3]; have := hxs.1.1; omega, by rw [g3]; have := hxs.1.2; omega⟩
          have hub : u ≤ NQ := by rw [g4]; exact hxs.2.2
          have mm := mul_b (a := lnB (L o) * lnC (L p) - lnB (L p) * lnC (L o)) (M := NQ) (b := u) (N := NQ) ⟨by omega, by have := hxb.2.2; omega⟩ ⟨by omega, hub⟩
          rw [if_pos (by rw [e]; exact (i32_le (a := 0) ⟨by decide, by decide⟩ ⟨by omega, by omega⟩).mpr (by omega)), c_order Qt hbp Qt2 hbs (by omega), bd_some]
          obtain ⟨y, E2, A2, C2⟩ := c_steep kk q w hn hM hp hsn (bL p hp) (bL s hsn)
          rw [← e] at E2
          rw [E2, bd_some, if_pos q.1]
          generalize hzz : (lnA (L p) * lnC (L o) - lnA (L o) * lnC (L p)) * u - t * (lnB (L o) * lnC (L p) - lnB (L p) * lnC (L o)) = zz
          have A : sg zz < 0 ↔ cr L o p < cr L o s := by rw [← hzz, sq_lt hbp hbs, ← ecr.2, ← ecs.2]
          have C : 0 < sg zz ↔ cr L o s < cr L o p := by rw [← hzz, sq_gt hbp hbs, ← ecr.2, ← ecs.2]
          by_cases d1 : cr L o p < cr L o s
          · rw [if_pos ((si_lt _).mpr (A.mpr d1))]
            exact setp (fun j hj hsl hc => by left; rcases F j hj hsl hc with v | v <;> grind)
          · rw [if_neg (fun v => d1 (A.mp ((si_lt _).mp v)))]
            by_cases d2 : cr L o p = cr L o s
            · have z1 : sg zz = 0 := by
                have h1 : ¬ sg zz < 0 := fun v => d1 (A.mp v)
                have h2 : ¬ 0 < sg zz := fun v => by have := C.mp v; grind
                omega
              rw [if_pos ((si_eq _).mpr z1)]
              by_cases d3 : sl (L p) < sl (L s)
              · rw [if_neg (fun v => by have := A2.mpr d3; have := (si_ge _).mp v; omega)]
                exact setp (fun j hj hsl hc => by rcases F j hj hsl hc with v | v; left; grind; right; exact ⟨by grind, by grind⟩)
              · rw [if_pos ((si_ge _).mpr (by have : ¬ sg y < 0 := fun v => d3 (A2.mp v); omega)), nx]
                exact keep (fun _ _ => ⟨s, e, Or.inr ⟨d2.symm, by grind⟩⟩)
            · have z1 : ¬ sg zz = 0 := by
                intro v
                have h2 : ¬ cr L o s < cr L o p := fun v2 => by have := C.mpr v2; omega
                grind
              rw [if_neg (fun v => z1 ((si_eq _).mp v)), nx]
              exact keep (fun _ _ => ⟨s, e, Or.inl (by grind)⟩)
      · rw [if_neg (fun z => c2 (hlt.mp ((lz_lt Qt.b BN).mp z))), nx]
        exact keep (fun _ z => absurd z c2)
    · rw [if_neg (fun z => c1 ((bot_pos Co Cp).mp ((lz_gt Qb.b z0).mp z))), nx]
      exact keep (fun z _ => absurd z c1)
end CF
