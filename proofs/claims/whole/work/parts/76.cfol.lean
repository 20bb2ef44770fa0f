/-! THE CLASS' follow -/
theorem cr_alg {A B C A' B' C' : Rat} (hC : C ≠ 0) (hD : B' * C - B * C' ≠ 0) : A / C + B / C * ((A * C' - A' * C) / (B' * C - B * C')) = (A * B' - A' * B) / (B' * C - B * C') := by
  generalize hE : B' * C - B * C' = D at *
  have e1 : A / C * C = A := by grind
  have e2 : B / C * C = B := by grind
  generalize A / C = a at *
  generalize B / C = b at *
  have e3 : (A * C' - A' * C) / D * D = A * C' - A' * C := by grind
  generalize (A * C' - A' * C) / D = t at *
  have e4 : ((a + b * t) * D) * C = (A * B' - A' * B) * C := by grind
  have e5 : (a + b * t) * D = A * B' - A' * B := by grind
  grind
theorem cr_y {L : Nat → Ln} {o p : Nat} (ho : 0 < lnC (L o)) (hp : 0 < lnC (L p)) (hS : sl (L p) < sl (L o)) : vl (L p) (cr L o p) = ((lnA (L p) * lnB (L o) - lnA (L o) * lnB (L p) : Int) : Rat) / ((lnB (L o) * lnC (L p) - lnB (L p) * lnC (L o) : Int) : Rat) := by
  have ec := cr_frac (L := L) (l := o) (o := p) ho hp (by grind)
  have hC : (lnC (L p) : Rat) ≠ 0 := cast_ne (by omega)
  have hD : ((lnB (L o) * lnC (L p) - lnB (L p) * lnC (L o) : Int) : Rat) ≠ 0 := cast_ne ec.1
  rw [ec.2]
  unfold vl ic sl
  simp only [Rat.intCast_sub, Rat.intCast_mul] at hD ⊢
  exact cr_alg hC hD
theorem inp {k : Nat} (hk : k ≤ 60000) : (0 : Int32) ≤ i32 (k : Int) := (i32_le (a := 0) (b := (k : Int)) ⟨by decide, by decide⟩ ⟨by omega, by omega⟩).mpr (by omega)
/-- all that is known of the lines -/
def CO (MA MB MC X NP NQ : Int) (L : Nat → Ln) (n M : Nat) : Prop := KonC MA MB MC X ∧ n ≤ M ∧ M ≤ 60000 ∧ (∀ k, k < n → LBd MA MB MC (L k)) ∧ MC ≤ 4611686018427387904 ∧ (∀ k, k < n → (-X ≤ lnF (L k) ∧ lnF (L k) ≤ X) ∧ (-X ≤ lnT (L k) ∧ lnT (L k) ≤ X) ∧ lnF (L k) ≤ lnT (L k)) ∧ X < 2147483647 ∧ NP ≤ 4611686018427387904 ∧ NQ * NQ ≤ 4611686018427387904 ∧ NQ ≤ 2147483648 ∧ (∀ o m, o < n → m < n → (∃ x, lv L false x o ∧ lv L false x m) → XB NP NQ (L o) (L m) ∧ Q (lnA (L m) * lnB (L o) - lnA (L o) * lnB (L m))) ∧ ∀ ks, PaperIs L n ks → ks.length ≤ 1600
def LX (h : xH) (r M : Nat) (L : Nat → Ln) (n s : Nat) : Prop := Lo h r M ∧ CLn h r L n ∧ hI h r 0 = i32 n ∧ Apt h s r
theorem LX.st {h h' : xH} {s r M n cap cap' : Nat} {L : Nat → Ln} (u : LX h r M L n s) (t : SSt h h' s cap cap') : LX h' r M L n s :=
  ⟨u.1.st u.2.2.2 t, u.2.1.st u.1 u.2.2.2 t, by rw [st_0 u.1 u.2.2.2 t 0]; exact u.2.2.1, u.2.2.2.st u.1 t⟩
theorem Vs_lv {L : Nat → Ln} {n : Nat} {x : Rat} {k : Nat} (h : Vs L n x k) : lv L false x k := by
  unfold lv bey
  simp
  exact ⟨h.2.1, by have := h.2.2; grind⟩
section CF
variable {MA MB MC X NP NQ : Int} {L : Nat → Ln} {n M r s : Nat} {x N : Int} {ls : List Nat}
theorem c_fol5 (co : CO MA MB MC X NP NQ L n M) (hl : ls.length ≤ n) (hls : ∀ o, o ∈ ls ↔ Vs L n x o) (nev : NoEv L n x N) (hN : B32 N) : ∀ (d k m : Nat) (h : xH) (cap : Nat) (ks : List Kn) (z0 : Rat) (o : Nat), k + d = ls.length → d < m → LX h r M L n s → LsI h r ls → hI h r 9 = i32 N → ShK h s cap ks → Wz L n x z0 o → (x : Rat) ≤ z0 → z0 < (N : Rat) → Upto L n z0 ks → (ls.filter (fun j => decide (sl (L j) < sl (L o)))).length + k + 1 ≤ ls.length → ∃ h' cap' ks' z1 o', fX1_follow_l5 m r s (i32 (o : Nat)) (i32 k) h = some (i32 (o' : Nat), h') ∧ ShK h' s cap' ks' ∧ SSt h h' s cap cap' ∧ Wz L n x z1 o' ∧ (x : Rat) ≤ z1 ∧ z1 < (N : Rat) ∧ Upto L n z1 ks' ∧ ∀ j, Vs L n x j → sl (L j) < sl (L o') → (N : Rat) ≤ cr L o' j := by
  obtain ⟨kk, hn, hM, bL, hC, bF, hX, hNP, hNQ, hQ1, xb, hB⟩ := co
  intro d
  induction d with
  | zero => intro k m h cap ks z0 o hk hm lx I c9 W wz hx hz u hf; omega
  | succ d ih =>
    intro k m h cap ks z0 o hk hm lx I c9 W wz hx hz u hf
    obtain ⟨m, rfl⟩ : ∃ k, m = k + 1 := ⟨m - 1, by omega⟩
    have ho : o < n := wz.1.1
    have hlt : ∀ j ∈ ls, j < n := fun j hj => ((hls j).mp hj).1
    have hpr : ∀ j ∈ ls, XB NP NQ (L o) (L j) ∧ Q (lnA (L j) * lnB (L o) - lnA (L o) * lnB (L j)) := fun j hj => xb o j ho (hlt j hj) ⟨x, Vs_lv wz.1, Vs_lv ((hls j).mp hj)⟩
    obtain ⟨b, t, v, E1, F⟩ := c_firstCrossing kk lx.1 lx.2.1 hn hM bL I hl hlt ho (fun j hj => (hpr j hj).1) hNP hNQ hQ1 c9 hN
    have x1 : ix (i32 (o : Nat)) M := ix_i (by omega) (by omega) (by omega)
    have e1 := nat_i o (by omega)
    show ∃ h' cap' ks' z1 o', fX1_follow_b5 _ _ _ _ _ _ = _ ∧ _
    unfold fX1_follow_b5
    rw [if_pos lx.1.1, I.1, if_neg (fun z => by have := (i32_le ⟨by omega, by omega⟩ ⟨by omega, by omega⟩).mp z; omega), if_neg (inn (by omega)), E1, bd_some]
    rcases F with ⟨e, F⟩ | ⟨p, e, hp, g1, g2, g3, g4, F⟩
    · rw [e, if_neg (by decide)]
      exact ⟨h, cap, ks, z0, o, rfl, W, SSt.rf h s cap, wz, hx, hz, u, fun j hj hs => F j ((hls j).mpr hj) hs⟩
    · have hpn := hlt p hp
      have hpv := (hls p).mp hp
      have bo := (bL o ho).2.2.1
      have bp := (bL p hpn).2.2.1
      have hbot := (bot_pos bo bp).mpr g1
      have ecr := cr_frac (L := L) (l := o) (o := p) bo bp (by grind)
      have ey := cr_y bo bp g1
      obtain ⟨xbp, qy⟩ := hpr p hp
      have hz0c : z0 < cr L o p := by
        have e2 := cr_d g1 z0
        rcases wz.2 p hpv with y | y
        · apply Classical.byContradiction
          intro hc
          have := Rat.mul_nonneg (show 0 ≤ sl (L o) - sl (L p) by grind) (show 0 ≤ -(cr L o p - z0) by grind)
          grind
        · grind
      have hcm : ∀ j, Vs L n x j → sl (L j) < sl (L o) → cr L o p ≤ cr L o j := by
        intro j hj hs
        by_cases c : cr L o j < (N : Rat)
        · rcases F j ((hls j).mpr hj) hs c with y | y <;> grind
        · grind
      obtain ⟨ka, wz2⟩ := fol_at nev wz hx hz0c g2 hcm hpv g1 rfl (fun j hj hs ec => by
        rcases F j ((hls j).mpr hj) hs (by rw [ec]; exact g2) with y | y
        · grind
        · exact y.2)
      have u2 := Upto.go u hz0c (fun z k2 a1 a2 a3 => fol_mid nev wz hx a1 a2 (by grind) hcm a3) ka
      have hlen := u2.len hB
      have hl1 : ks.length < 1600 := by
        rw [List.length_append] at hlen
        have : [(cr L o p, vl (L p) (cr L o p), true)].length = 1 := rfl
        omega
      have Qb : Q (lnB (L o) * lnC (L p) - lnB (L p) * lnC (L o)) := ⟨by omega, by have := xbp.2.2; omega⟩
      have Qt : Q (lnA (L p) * lnC (L o) - lnA (L o) * lnC (L p)) := ⟨by have := xbp.1.1; omega, by have := xbp.1.2; omega⟩
      obtain ⟨h1, cap1, E2, W1, T1⟩ := c_addKnot W hl1 Qt Qb hbot qy Qb hbot true
      rw [← ecr.2, ← ey] at W1
      have hf2 := flt_lt (l := ls) (p := fun j => decide (sl (L j) < sl (L o))) (p' := fun j => decide (sl (L j) < sl (L p))) (fun j _ z => by simp at z ⊢; grind) ⟨p, hp, by simpa using g1, by simp⟩
      obtain ⟨h2, cap2, ks2, z1, o2, E3, W2, T2, r1, r2, r3, r4, r5⟩ := ih (k + 1) m h1 cap1 _ (cr L o p) p (by omega) (by omega) (lx.st T1) (I.st lx.1 lx.2.2.2 T1) (by rw [st_0 lx.1 lx.2.2.2 T1 9]; exact c9) W1 wz2 (by grind) g2 u2 (by omega)
      refine ⟨h2, cap2, ks2, z1, o2, ?_, W2, T1.tr T2, r1, r2, r3, r4, r5⟩
      have x2 : ix (i32 (p : Nat)) M := ix_i (by omega) (by omega) (by omega)
      have e2 := nat_i p (by omega)
      have wo := lx.2.1 o ho
      have wp := lx.2.1 p hpn
      have q := lx.1
      rw [e, if_pos (inp (show p ≤ 60000 by omega)), c_bottom q lx.2.1 hn hM ho hpn, bd_some]
      simp only [lt_def, q.2.1 3 (by decide) (by decide), q.2.1 4 (by decide) (by decide), q.2.2.2.2.1.1, q.2.2.2.2.1.2, q.2.2.2.2.2.1.1, q.2.2.2.2.2.1.2, e1, e2, if_pos x1, if_pos x2, wo.2.2.1, wo.2.2.2.1, wp.2.2.1, wp.2.2.2.1, i64_mul, i64_sub, reduceIte]
      rw [c_top q lx.2.1 hn hM ho hpn, bd_some, if_pos W.1.1, show (1 : Int32) = bz true from rfl, E2, bd_some, show bz true = i32 1 from rfl, i32_add]
      exact E3
end CF
