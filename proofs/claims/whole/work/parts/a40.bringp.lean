/-! READ: the reference brings its paper back -/
section BP
variable {h : xH} {k : Nat}
theorem bp_s58 (q : Mo h) (y : Ly h 225 226 227 228 8) (hk : k < 8) {n j : Nat} (hn : n < 1600) (hj : j < 4) (r46 : Nat → Int32 → Int32 → xH → Option (Unit × xH)) (m : Nat) : fX7_bringPaper_l22 r46 (m + 1) 220 (i32 (k : Int)) (i32 (n : Int)) (i32 (j : Int)) h = fX7_bringPaper_l22 r46 m 220 (i32 (k : Int)) (i32 (n : Int)) (i32 ((j + 1 : Nat) : Int)) (sJ h 223 (4 * n + j) (hJ h 227 (4 * (1600 * k + n) + j))) := by
  obtain ⟨-, -, y3, -, yK, -⟩ := y
  have x0 : ix (i32 (4 * (n : Int) + (j : Int))) 6400 := ix_i (by omega) (by omega) (by decide)
  have x1 : ix (i32 (4 * (1600 * (k : Int) + (n : Int)) + (j : Int))) (6400 * 8) := ix_i (by omega) (by omega) (by omega)
  have n0 : (i32 (4 * (n : Int) + (j : Int))).toNatClampNeg = 4 * n + j := by rw [i32_nat (by omega) (by omega)]; omega
  have n1 : (i32 (4 * (1600 * (k : Int) + (n : Int)) + (j : Int))).toNatClampNeg = 4 * (1600 * k + n) + j := by rw [i32_nat (by omega) (by omega)]; omega
  show fX7_bringPaper_b22 _ _ 220 _ _ _ h = _
  unfold fX7_bringPaper_b22
  rw [if_neg (fun z => by have := (i32_le (a := 4) (b := (j : Int)) ⟨by decide, by decide⟩ ⟨by omega, by omega⟩).mp z; omega)]
  simp only [fou32, one32, show (1600 : Int32) = i32 1600 from rfl, i32_mul, i32_add, q.k220, q.r5, q.r9, q.k223, q.l223, y3.1, y3.2, if_pos x0, if_pos x1, n0, n1, lt_def, kp1, reduceIte]
theorem bp_e58 (q : Mo h) (y : Ly h 225 226 227 228 8) (hk : k < 8) {n : Nat} {b : Bool} (hn : n < 1600) (hb : hI h 228 (1600 * k + n) = bz b) (r46 : Nat → Int32 → Int32 → xH → Option (Unit × xH)) (m : Nat) : fX7_bringPaper_l22 r46 (m + 1) 220 (i32 (k : Int)) (i32 (n : Int)) (i32 ((4 : Nat) : Int)) h = r46 220 (i32 (k : Int)) (i32 ((n + 1 : Nat) : Int)) (sI h 224 n (bz b)) := by
  obtain ⟨-, -, -, y4, yK, -⟩ := y
  have x0 : ix (i32 (n : Int)) 1600 := ix_i (by omega) (by omega) (by decide)
  have x1 : ix (i32 (1600 * (k : Int) + (n : Int))) (1600 * 8) := ix_i (by omega) (by omega) (by omega)
  have n0 : (i32 (n : Int)).toNatClampNeg = n := nat_i n (by omega)
  have n1 : (i32 (1600 * (k : Int) + (n : Int))).toNatClampNeg = 1600 * k + n := by rw [i32_nat (by omega) (by omega)]; omega
  show fX7_bringPaper_b22 _ _ 220 _ _ _ h = _
  unfold fX7_bringPaper_b22
  rw [if_pos (by decide)]
  simp only [one32, show (1600 : Int32) = i32 1600 from rfl, i32_mul, i32_add, q.k220, q.r6, q.r10, q.k224, q.l224, y4.1, y4.2, if_pos x0, if_pos x1, n0, n1, hb, if_pos (show bz b = 0 ∨ bz b = i32 1 from bz_01 b), lt_def, kp1, reduceIte]
theorem bp_n58 (q : Mo h) (y : Ly h 225 226 227 228 8) (hk : k < 8) {n : Nat} {b : Bool} (hn : n < 1600) (hb : hI h 228 (1600 * k + n) = bz b) (r46 : Nat → Int32 → Int32 → xH → Option (Unit × xH)) : ∃ h', fX7_bringPaper_l22 r46 FU 220 (i32 (k : Int)) (i32 (n : Int)) 0 h = r46 220 (i32 (k : Int)) (i32 ((n + 1 : Nat) : Int)) h' ∧ (∀ j, j < 4 → hJ h' 223 (4 * n + j) = hJ h 227 (4 * (1600 * k + n) + j)) ∧ hI h' 224 n = bz b ∧ Fr (Abn n) h h' := by
  have yb := y.2.2.2.2.2.1
  have st : ∀ (g : xH) (v : Int64) (j : Nat), j < 4 → Fr (Abn n) g (sJ g 223 (4 * n + j) v) := fun g v j hj => Fr.J _ (Or.inl ⟨rfl, by omega, by omega⟩)
  have ex : ∃ g1, g1 = sJ h 223 (4 * n + 0) (hJ h 227 (4 * (1600 * k + n) + 0)) := ⟨_, rfl⟩
  obtain ⟨g1, e1⟩ := ex
  have ex : ∃ g2, g2 = sJ g1 223 (4 * n + 1) (hJ g1 227 (4 * (1600 * k + n) + 1)) := ⟨_, rfl⟩
  obtain ⟨g2, e2⟩ := ex
  have ex : ∃ g3, g3 = sJ g2 223 (4 * n + 2) (hJ g2 227 (4 * (1600 * k + n) + 2)) := ⟨_, rfl⟩
  obtain ⟨g3, e3⟩ := ex
  have ex : ∃ g4, g4 = sJ g3 223 (4 * n + 3) (hJ g3 227 (4 * (1600 * k + n) + 3)) := ⟨_, rfl⟩
  obtain ⟨g4, e4⟩ := ex
  have F1 : Fr (Abn n) h g1 := by rw [e1]; exact st _ _ 0 (by decide)
  have F2 : Fr (Abn n) h g2 := F1.tr (by rw [e2]; exact st _ _ 1 (by decide))
  have F3 : Fr (Abn n) h g3 := F2.tr (by rw [e3]; exact st _ _ 2 (by decide))
  have F4 : Fr (Abn n) h g4 := F3.tr (by rw [e4]; exact st _ _ 3 (by decide))
  have na : ∀ c, ¬ Abn n 227 c := fun c => by unfold Abn; omega
  have nb : ∀ c, ¬ Abn n 228 c := fun c => by unfold Abn; omega
  have b4 : hI g4 228 (1600 * k + n) = bz b := by rw [(F4.2.2 228 _ (nb _)).1]; exact hb
  refine ⟨sI g4 224 n (bz b), ?_, fun j hj => ?_, by rw [hI_sI, if_pos ⟨rfl, rfl⟩], F4.tr (Fr.I _ (Or.inr ⟨rfl, rfl⟩))⟩
  · have s0 := bp_s58 q y hk hn (j := 0) (by decide) r46 99999
    have s1 := bp_s58 (F1.mo q) (y.fr F1) hk hn (j := 1) (by decide) r46 99998
    have s2 := bp_s58 (F2.mo q) (y.fr F2) hk hn (j := 2) (by decide) r46 99997
    have s3 := bp_s58 (F3.mo q) (y.fr F3) hk hn (j := 3) (by decide) r46 99996
    have s4 := bp_e58 (F4.mo q) (y.fr F4) hk hn b4 r46 99995
    rw [← e1] at s0
    rw [← e2] at s1
    rw [← e3] at s2
    rw [← e4] at s3
    exact s0.trans (s1.trans (s2.trans (s3.trans s4)))
  · rw [hJ_sI]
    have o1 : ∀ c, hJ g1 227 c = hJ h 227 c := fun c => (F1.2.2 227 c (na c)).2
    have o2 : ∀ c, hJ g2 227 c = hJ h 227 c := fun c => (F2.2.2 227 c (na c)).2
    have o3 : ∀ c, hJ g3 227 c = hJ h 227 c := fun c => (F3.2.2 227 c (na c)).2
    rcases (show j = 0 ∨ j = 1 ∨ j = 2 ∨ j = 3 by omega) with ej | ej | ej | ej <;> rw [ej]
    · rw [e4, hJ_sJ, if_neg (by omega), e3, hJ_sJ, if_neg (by omega), e2, hJ_sJ, if_neg (by omega), e1, hJ_sJ, if_pos ⟨rfl, rfl⟩]
    · rw [e4, hJ_sJ, if_neg (by omega), e3, hJ_sJ, if_neg (by omega), e2, hJ_sJ, if_pos ⟨rfl, rfl⟩, o1]
    · rw [e4, hJ_sJ, if_neg (by omega), e3, hJ_sJ, if_pos ⟨rfl, rfl⟩, o2]
    · rw [e4, hJ_sJ, if_pos ⟨rfl, rfl⟩, o3]
theorem bp_46 {ks : List Kn} (hl : ks.length ≤ 1600) (hk : k < 8) : ∀ (d n m : Nat) (h : xH), n + d = ks.length → d < m → Mo h → Ly h 225 226 227 228 8 → hI h 220 4 = i32 (ks.length : Int) → LpI h h 227 228 k ks.length ks → BpI h n ks → ∃ h', fX7_bringPaper_l12 m 220 (i32 (k : Int)) (i32 (n : Int)) h = some ((), h') ∧ Kp h' ks ∧ Fr (fun r _ => r = 223 ∨ r = 224) h h' := by
  intro d
  induction d with
  | zero =>
    intro n m h hn hm q y c4 L B
    obtain ⟨m, rfl⟩ : ∃ k, m = k + 1 := ⟨m - 1, by omega⟩
    have en : n = ks.length := by omega
    refine ⟨h, ?_, ⟨fun i kn e0 => B i kn (by rw [en]; exact (List.getElem?_eq_some_iff.mp e0).1) e0, c4⟩, Fr.rf h⟩
    show fX7_bringPaper_b12 _ 220 _ _ h = _
    unfold fX7_bringPaper_b12
    rw [if_pos q.k220, c4, if_pos (by rw [en]; exact Int32.le_refl _)]
  | succ d ih =>
    intro n m h hn hm q y c4 L B
    obtain ⟨m, rfl⟩ : ∃ k, m = k + 1 := ⟨m - 1, by omega⟩
    have hnl : n < ks.length := by omega
    have hg : ks[n]? = some ks[n] := List.getElem?_eq_getElem hnl
    have v := L n _ hnl hg
    obtain ⟨h1, E1, J1, I1, F1⟩ := bp_n58 q y hk (n := n) (by omega) v.2.2.2.2 (fX7_bringPaper_l12 m)
    have yb := y.2.2.2.2.2.1
    have na : ∀ r c, 224 < r → ¬ Abn n r c := fun r c hr => by unfold Abn; omega
    have L1 : LpI h1 h1 227 228 k ks.length ks := by
      intro i kn hi e0
      rw [(F1.2.2 227 _ (na _ _ (by omega))).2, (F1.2.2 227 _ (na _ _ (by omega))).2, (F1.2.2 227 _ (na _ _ (by omega))).2, (F1.2.2 227 _ (na _ _ (by omega))).2, (F1.2.2 228 _ (na _ _ (by omega))).1]
      exact L i kn hi e0
    have B1 : BpI h1 (n + 1) ks := by
      intro i kn hi e0
      by_cases c : i = n
      · rw [c] at e0 ⊢
        rw [hg] at e0
        have ek := Option.some.inj e0
        rw [← ek]
        have j0 := J1 0 (by decide)
        rw [Nat.add_zero, Nat.add_zero] at j0
        refine ⟨by rw [j0]; exact v.1, by rw [J1 1 (by decide)]; exact v.2.1, by rw [J1 2 (by decide)]; exact v.2.2.1, by rw [J1 3 (by decide)]; exact v.2.2.2.1, I1⟩
      · have w := B i kn (by omega) e0
        rw [(F1.2.2 223 _ (by unfold Abn; omega)).2, (F1.2.2 223 _ (by unfold Abn; omega)).2, (F1.2.2 223 _ (by unfold Abn; omega)).2, (F1.2.2 223 _ (by unfold Abn; omega)).2, (F1.2.2 224 _ (by unfold Abn; omega)).1]
        exact w
    obtain ⟨h2, E2, L2, F2⟩ := ih (n + 1) m h1 (by omega) (by omega) (F1.mo q) (y.fr F1) (by rw [(F1.2.2 220 4 (by unfold Abn; omega)).1]; exact c4) L1 B1
    refine ⟨h2, ?_, L2, (F1.mono (fun r c z => by unfold Abn at z; omega)).tr F2⟩
    show fX7_bringPaper_b12 _ 220 _ _ h = _
    unfold fX7_bringPaper_b12
    rw [if_pos q.k220, c4, if_neg (nle32 hnl (by omega)), lt_def]
    exact E1.trans E2
theorem m_bringP {f : Nat → List Kn} (hk : k < 8) (q : Mo h) (S : Snp h 225 226 227 228 k f) (hl : (f 6).length ≤ 1600) : ∃ h', fX7_bringPaper 220 (i32 (k : Int)) h = some ((), h') ∧ Kp h' (f 6) ∧ Fr (fun r c => r = 223 ∨ r = 224 ∨ (r = 220 ∧ c = 4)) h h' := by
  have xk : ix (i32 (k : Int)) 8 := ix_i (by omega) (by omega) (by decide)
  have nk := nat_i k (by omega)
  have F2 : Fr (fun r c => r = 220 ∧ c = 4) h (sI h 220 4 (hI h 226 k)) := Fr.I _ ⟨rfl, rfl⟩
  have L2 : LpI (sI h 220 4 (hI h 226 k)) (sI h 220 4 (hI h 226 k)) 227 228 k (f 6).length (f 6) := by
    intro i kn hi e0
    rw [(F2.2.2 227 _ (by omega)).2, (F2.2.2 227 _ (by omega)).2, (F2.2.2 227 _ (by omega)).2, (F2.2.2 227 _ (by omega)).2, (F2.2.2 228 _ (by omega)).1]
    exact S.2.2 i kn e0
  obtain ⟨h3, E3, K3, F3⟩ := bp_46 (ks := f 6) hl hk (f 6).length 0 FU (sI h 220 4 (hI h 226 k)) (by omega) (by rw [FU_eq]; omega) (F2.mo q) (F2.mo q).ly1 (by rw [hI_sI, if_pos ⟨rfl, rfl⟩]; exact S.2.1) L2 (fun m kn hm => by omega)
  refine ⟨h3, ?_, K3, (F2.mono (fun r c z => Or.inr (Or.inr z))).tr (F3.mono (fun r c z => by rcases z with z | z; exact Or.inl z; exact Or.inr (Or.inl z)))⟩
  have E3' : fX7_bringPaper_l12 FU 220 (i32 (k : Int)) 0 (sI h 220 4 (hI h 226 k)) = some ((), h3) := E3
  unfold fX7_bringPaper
  rw [if_pos q.k220, q.r8, if_pos q.k226, q.l226, if_pos xk, lt_def, lt_def]
  simp only [nk]
  exact E3'
end BP
/-! READ: the reference lays the told lines -/
section ML2
variable {s : TS}
theorem m_rb195 {h : xH} {i : Int32} {k o : Nat} {ll : List Ln} (M : Mo h) (kl1 : k < 12) (ol : o < 12) (hk : hI h 247 k = i32 (tX s k) ∧ hI h 248 k = i32 (tY s k)) (ho : hI h 247 o = i32 (tX s o) ∧ hI h 248 o = i32 (tY s o)) (sb : SpB (tX s k, tY s k, tX s o, tY s o)) (L : Lnl h ll) (hl : ll.length < 700) (r133 : Nat → Int32 → Int32 → xH → Option (Int32 × xH)) : ∃ h', fX7_read_b195 r133 (i32 (o : Int)) 220 i (i32 (k : Int)) h = r133 220 i (i32 ((k + 1 : Nat) : Int)) h' ∧ Lnl h' (ll ++ [lby (tX s k, tY s k, tX s o, tY s o)]) ∧ Fr AI h h' := by
  obtain ⟨h', E, A, F⟩ := m_lb M L hl sb
  refine ⟨h', ?_, A, F⟩
  have xk : ix (i32 (k : Int)) 12 := ix_i (by omega) (by omega) (by decide)
  have xo : ix (i32 (o : Int)) 12 := ix_i (by omega) (by omega) (by decide)
  have nk := nat_i k (by omega)
  have no := nat_i o (by omega)
  obtain ⟨s1, s2, s3, s4, s5⟩ := sb
  dsimp only at s1 s2 s3 s4 s5
  have E' : fX7_lineBy 220 (i64 (tX s k)) (i64 (tY s k)) (i64 (tX s o)) (i64 (tY s o)) h = some ((), h') := E
  unfold fX7_read_b195 fX7_read_b231
  rw [if_pos M.k220, M.r41, if_pos M.k247, M.l247, if_pos xk, M.r42, if_pos M.k248, M.l248, if_pos xk, if_pos xo, if_pos xo]
  simp only [nk, no]
  have B1 : B32 (tX s k) := ⟨by omega, by omega⟩
  have B2 : B32 (tY s k) := ⟨by omega, by omega⟩
  have B3 : B32 (tX s o) := ⟨by omega, by omega⟩
  have B4 : B32 (tY s o) := ⟨by omega, by omega⟩
  simp only [hk.1, hk.2, ho.1, ho.2, i64_of32 B1, i64_of32 B2, i64_of32 B3, i64_of32 B4, E', bd_some, lt_def, one32, i32_add, kp1]
theorem m_r133 {i : Int32} (ok : TOk s) (R : xH → Option (Int32 × xH)) (hR : ∀ (h : xH) (r133 : Nat → Int32 → Int32 → xH → Option (Int32 × xH)), Mo h → hI h 220 44 = i32 (tN s : Int) → fX7_read_b133 r133 220 i (i32 (tN s : Int)) h = R h) : ∀ (d k m : Nat) (h : xH), k + d = tN s → d < m → Mo h → Tld h s → Lnl h (((List.range k).filterMap (spF s)).map lby) → ∃ h', fX7_read_l133 m 220 i (i32 (k : Int)) h = R h' ∧ Lnl h' ((fulT s).map lby) ∧ Fr AI h h' := by
  have n12 := ok.1
  intro d
  induction d with
  | zero =>
    intro k m h hk hm M t L
    obtain ⟨m, rfl⟩ : ∃ k, m = k + 1 := ⟨m - 1, by omega⟩
    have ek : k = tN s := by omega
    rw [ek] at L
    refine ⟨h, ?_, L, Fr.rf h⟩
    rw [ek]
    exact hR h _ M t.1
  | succ d ih =>
    intro k m h hk hm M t L
    obtain ⟨m, rfl⟩ : ∃ k, m = k + 1 := ⟨m - 1, by omega⟩
    have hkl : k < tN s := by omega
    obtain ⟨c1, c2, c3⟩ := t.2 k hkl
    have bk := ok.2.1 k hkl
    have xk : ix (i32 (k : Int)) 12 := ix_i (by omega) (by omega) (by decide)
    have nk := nat_i k (by omega)
    have hlen := fm_len (spF s) k
    have Ll : (((List.range k).filterMap (spF s)).map lby).length < 700 := by rw [List.length_map]; omega
    have nAI : ¬ AI 220 44 ∧ ∀ r c, 247 ≤ r → r ≤ 249 → ¬ AI r c := ⟨by unfold AI; omega, fun r c a b => by unfold AI; omega⟩
    -- one line more
    have push : ∀ o : Nat, o < tN s → tX s k ≤ tX s o → spF s k = some (tX s k, tY s k, tX s o, tY s o) → ∃ h', fX7_read_b195 (fX7_read_l133 m) (i32 (o : Int)) 220 i (i32 (k : Int)) h = R h' ∧ Lnl h' ((fulT s).map lby) ∧ Fr AI h h' := by
      intro o ho hx e
      have bo := ok.2.1 o ho
      have co := t.2 o ho
      obtain ⟨h1, E1, L1, F1⟩ := m_rb195 (i := i) (k := k) (o := o) M (by omega) (by omega) ⟨c1, c2⟩ ⟨co.1, co.2.1⟩ (by unfold SpB; dsimp only; exact ⟨by omega, by omega, by omega, by omega, by omega⟩) L Ll (fX7_read_l133 m)
      have es : ((List.range (k + 1)).filterMap (spF s)).map lby = ((List.range k).filterMap (spF s)).map lby ++ [lby (tX s k, tY s k, tX s o, tY s o)] := by
        rw [fm_succ, e, List.map_append]; rfl
      obtain ⟨h2, E2, L2, F2⟩ := ih (k + 1) m h1 (by omega) (by omega) (F1.mo M) (t.fr F1 nAI) (by rw [es]; exact L1)
      exact ⟨h2, by rw [E1]; exact E2, L2, F1.tr F2⟩
    show ∃ h', fX7_read_b133 _ 220 _ _ h = _ ∧ _
    unfold fX7_read_b133
    rw [if_pos M.k220, t.1, if_neg (fun z => by have := (i32_le ⟨by omega, by omega⟩ ⟨by omega, by omega⟩).mp z; omega), M.r43, if_pos M.k249, M.l249, if_pos xk]
    simp only [nk]
    rw [c3]
    have lone : spF s k = some (tX s k, tY s k, tX s k, tY s k) → ∃ h', fX7_read_b165 (fX7_read_l133 m) 220 i (i32 (k : Int)) h = R h' ∧ Lnl h' ((fulT s).map lby) ∧ Fr AI h h' := by
      intro e
      unfold fX7_read_b165 fX7_read_b170 fX7_read_b184
      rw [if_neg (by decide), if_neg (by decide)]
      exact push k hkl (Int.le_refl _) e
    have other : (tG s k = true ∨ spF s k = none) → ∃ h', fX7_read_b169 (fX7_read_l133 m) 220 i (i32 (k : Int)) h = R h' ∧ Lnl h' ((fulT s).map lby) ∧ Fr AI h h' := by
      intro e
      unfold fX7_read_b169 fX7_read_b170 fX7_read_b184
      rw [if_pos rfl, if_pos M.k220, M.r43, if_pos M.k249, M.l249, if_pos xk]
      simp only [nk]
      rw [c3]
      cases cg : tG s k with
      | true =>
        rw [if_neg bzt0, if_pos trivial, one32, i32_add, kp1]
        have f := ok.2.2.2 k hkl cg
        exact push (k + 1) f.1 (by omega) (by unfold spF; rw [if_pos cg])
      | false =>
        rcases e with e | e
        · rw [cg] at e; cases e
        · rw [if_pos bz_f]
          unfold fX7_read_b231
          rw [lt_def, one32, i32_add, kp1]
          have es : ((List.range (k + 1)).filterMap (spF s)).map lby = ((List.range k).filterMap (spF s)).map lby := by
            rw [fm_succ, e, List.map_append]; simp
          exact ih (k + 1) m h (by omega) (by omega) M t (by rw [es]; exact L)
    cases cg : tG s k with
    | true =>
      rw [if_neg bzt0]
      exact other (Or.inl cg)
    | false =>
      rw [if_pos bz_f]
      by_cases c0 : k = 0
      · rw [if_pos (by rw [c0]; rfl)]
        exact lone (by unfold spF; rw [if_neg (by rw [cg]; decide), if_pos (Or.inl c0)])
      · have xm : ix (i32 ((k : Int) - 1)) 12 := ix_i (by omega) (by omega) (by decide)
        have nm : (i32 ((k : Int) - 1)).toNatClampNeg = k - 1 := by rw [i32_nat (by omega) (by omega)]; omega
        have cm := (t.2 (k - 1) (by omega)).2.2
        rw [if_neg (fun z => c0 (by have := (i32_eq (b := 0) ⟨by omega, by omega⟩ ⟨by decide, by decide⟩).mp z; omega)), one32, i32_sub, if_pos xm]
        simp only [nm]
        rw [cm]
        cases cg2 : tG s (k - 1) with
        | false =>
          rw [if_pos bz_f]
          exact lone (by unfold spF; rw [if_neg (by rw [cg]; decide), if_pos (Or.inr cg2)])
        | true =>
          rw [if_neg bzt0]
          refine other (Or.inr ?_)
          unfold spF
          rw [if_neg (by rw [cg]; decide), if_neg]
          rintro (z | z)
          · exact c0 z
          · rw [cg2] at z; cases z
end ML2
