/-! where: both -/
section WH
variable {ks : List Kn} {y : Int} {b : Option Rat}
theorem bst_w (B : Bst (T2 ks y (spL ks).length) b) : IsW ks y b := by
  have he : ∀ p, cnd ks y p ↔ T2 ks y (spL ks).length p := by
    intro p
    unfold cnd T2 T1
    constructor
    · rintro ⟨iv, ⟨j, hj, ej⟩ | ⟨m, hm, z1, z2, z3⟩⟩
      · exact Or.inl ⟨j, hj, ej, iv⟩
      · exact Or.inr ⟨m, hm, z1, z2, z3, iv⟩
    · rintro (⟨j, hj, ej, iv⟩ | ⟨m, hm, z1, z2, z3, iv⟩)
      · exact ⟨iv, Or.inl ⟨j, hj, ej⟩⟩
      · exact ⟨iv, Or.inr ⟨m, hm, z1, z2, z3⟩⟩
  cases b with
  | none => exact fun p z => B p ((he p).mp z)
  | some m => exact ⟨(he m).mpr B.1, fun p z => B.2 p ((he p).mp z)⟩
theorem m_w52 (O : StO ks) {i : Nat} (hi : i < 6) (hy : -5940 ≤ y ∧ y ≤ 5940) {w : Int} (hw : 0 ≤ w ∧ w ≤ 1) : ∀ (d k m : Nat) (h : xH) (b : Option Rat), k + d = ks.length → d < m → Mo h → Rwi h i ks → OwI h ks → WsM h b → Bst (T1 ks y k) b → ∃ h' b', fX7_where_l52 m 220 (i32 i) (i32 y) (i32 w) (i32 (k : Int)) h = some (i64 (whA b' w), h') ∧ Fr A47 h h' ∧ Bst (T2 ks y (spL ks).length) b' := by
  have l1 := sp_len ks
  have l2 := O.1
  intro d
  induction d with
  | zero =>
    intro k m h b hk hm q R W S B
    obtain ⟨m, rfl⟩ : ∃ k, m = k + 1 := ⟨m - 1, by omega⟩
    have ek : k = ks.length := by omega
    obtain ⟨h2, b2, E2, F2, B2⟩ := m_w85 O hy hw (spL ks).length 0 FU h b (by omega) (by rw [FU_eq]; omega) q W S (B.cong (fun p => by
      rw [ek]
      unfold T2
      constructor
      · rintro (z | ⟨j, hj, _⟩)
        · exact z
        · omega
      · exact Or.inl))
    refine ⟨h2, b2, ?_, F2, B2⟩
    show fX7_where_b52 _ 220 _ _ _ _ h = _
    unfold fX7_where_b52
    rw [if_pos q.k220, m_many q hi R, bd_some, if_pos (by rw [ek]; exact Int32.le_refl _), lt_def]
    exact E2
  | succ d ih =>
    intro k m h b hk hm q R W S B
    obtain ⟨m, rfl⟩ : ∃ k, m = k + 1 := ⟨m - 1, by omega⟩
    have hkl : k < ks.length := by omega
    have bk := O.2.1.b hkl
    obtain ⟨g1, b1, G1, S1, F1, hb⟩ := m_meets (P := kx ks k) (D := 1) q O W hy ⟨⟨by omega, by omega⟩, by decide, by decide⟩ S
    rw [rat_1] at hb
    have B1 : Bst (T1 ks y (k + 1)) b1 := by
      rcases hb with ⟨iv, eb⟩ | ⟨iv, eb⟩
      · rw [eb]
        refine (B.add (p0 := (kx ks k : Rat))).cong (fun p => ?_)
        unfold T1
        constructor
        · rintro ⟨j, hj, z1, z2⟩
          by_cases c : j = k
          · rw [c] at z1; exact Or.inr z1
          · exact Or.inl ⟨j, by omega, z1, z2⟩
        · rintro (⟨j, hj, z1, z2⟩ | z)
          · exact ⟨j, by omega, z1, z2⟩
          · exact ⟨k, by omega, z, by rw [z]; exact iv⟩
      · rw [eb]
        refine B.cong (fun p => ?_)
        unfold T1
        constructor
        · rintro ⟨j, hj, z1, z2⟩
          by_cases c : j = k
          · rw [c] at z1; rw [z1] at z2; exact absurd z2 iv
          · exact ⟨j, by omega, z1, z2⟩
        · rintro ⟨j, hj, z1, z2⟩; exact ⟨j, by omega, z1, z2⟩
    obtain ⟨h2, b2, E2, F2, B2⟩ := ih (k + 1) m g1 b1 (by omega) (by omega) (F1.mo q) (R.fr F1 A47_n.2.2) (W.fr F1 A47_n.1 A47_n.2.1) S1 B1
    refine ⟨h2, b2, ?_, F1.tr F2, B2⟩
    show fX7_where_b52 _ 220 _ _ _ _ h = _
    unfold fX7_where_b52
    rw [if_pos q.k220, m_many q hi R, bd_some, if_neg (nle32 hkl (by omega)), m_xOf q hi l2 R hkl, bd_some, i64_of32 ⟨by omega, by omega⟩, o64, G1, bd_some, lt_def, one32, i32_add, kp1]
    exact E2
theorem Q_where {cur : Nat → List Kn} (C : CurOk cur) (a b c : Int32) : Ag cur (fX6_where 2 a b c) (fX7_where 220 a b c) := by
  obtain ⟨i, bi, rfl⟩ := i32_ex a
  obtain ⟨y, bx, rfl⟩ := i32_ex b
  obtain ⟨w, bw, rfl⟩ := i32_ex c
  intro h h' I J
  have Bx : B64 y := ⟨by have := bx.1; omega, by have := bx.2; omega⟩
  have Bw : B64 w := ⟨by have := bw.1; omega, by have := bw.2; omega⟩
  unfold fX6_where fX7_where
  simp only [if_pos J.1.k220, lt_def, c_isStore bi, m_isStore bi, bd_some, bzd, i64_of32 bx, i64_of32 bw, c_isPlace Bx, m_isPlace Bx, c_isUL bw, z64, o64, m_in (b := 0) (c := 1) Bw ⟨by decide, by decide⟩ ⟨by decide, by decide⟩]
  by_cases h1 : 0 ≤ i ∧ i ≤ 5
  · by_cases h2 : -5940 ≤ y ∧ y ≤ 5940
    · by_cases h3 : 0 ≤ w ∧ w ≤ 1
      · simp only [if_pos h1, if_pos h2, if_pos h3]
        obtain ⟨n, rfl⟩ : ∃ n : Nat, i = n := ⟨i.toNat, by omega⟩
        have hn : n < 6 := by omega
        obtain ⟨O, -⟩ := C.1 n hn
        obtain ⟨cap, W⟩ := I.2 n (by omega)
        have co := I.1
        have sl := I.s (show n < 7 by omega)
        have h12 := O.1
        obtain ⟨g1, v1, E1, R1, V1, B1, F1⟩ := c_fw2 O h2 (cur n).length 0 FU h (by omega) (by rw [FU_eq]; omega) W co.k88 (fun j hj => by omega)
        obtain ⟨g2, E2, F2⟩ := c_tellNumber R1 (by rw [F1.ekc]; exact co.k88) B1 bw
        have E1' : fX4_firstWith (hR h 3 n) (i32 y) 88 h = some ((), g1) := by
          unfold fX4_firstWith
          rw [lt_def]; exact E1
        have f0 := thr0 h'
        obtain ⟨g3, E3, w3, F3⟩ := m_own (f0.mo J.1) hn O ((J.2.1 n hn).fr f0 MSc_222)
        have F3 := F3.mono (B := MSc) (fun _ _ z => MSv_ms z)
        have f4 : Fr A47 g3 (sI g3 220 49 1) := Fr.I _ ⟨rfl, by omega⟩
        have q3 := F3.mo (f0.mo J.1)
        obtain ⟨g5, b5, E5, F5, B5⟩ := m_w52 O hn h2 h3 (cur n).length 0 FU (sI g3 220 49 1) none (by omega) (by rw [FU_eq]; omega) (f4.mo q3) ((((J.2.1 n hn).fr f0 MSc_222).fr F3 MSc_222).fr f4 A47_n.2.2) (w3.fr f4 A47_n.1 A47_n.2.1) ⟨by simp [hI_sI, bz], fun p e0 => by cases e0⟩ (fun p z => by obtain ⟨j, hj, _⟩ := z; omega)
        have E5' : fX7_where_l52 FU 220 (i32 (n : Int)) (i32 y) (i32 w) 0 (sI g3 220 49 1) = some (i64 (whA b5 w), g5) := E5
        have ew := IsW_one V1 (bst_w B5)
        subst ew
        refine ⟨i64 (tel (s60 v1) w), g2, g5, ?_, (F1.mono (fun _ _ z => AR_cs (by decide) (by decide) z)).tr (F2.mono (fun _ _ z => AR_cs (by decide) (by decide) z)), ?_, ((f0.tr F3).tr (f4.mono (fun _ _ z => A47_ms z))).tr (F5.mono (fun _ _ z => A47_ms z))⟩
        · rw [if_pos co.k2, co.r2_0, if_pos co.k3, if_pos sl.1, sl.2, if_pos W.1.1, co.r2_11, E1', bd_some, F1.ehR, co.r2_11, E2, bd_some]
        · rw [E3, bd_some, E5']
          cases v1 with
          | none => rfl
          | some p =>
            show some (i64 (prt (p / 60) w), g5) = _
            rw [prt_tel (by omega), if_pos (by omega)]
            rfl
      · simp only [if_pos h1, if_pos h2, if_neg h3]
        exact ⟨_, h, _, rfl, Fr.rf h, rfl, thr0 h'⟩
    · simp only [if_pos h1, if_neg h2]
      exact ⟨_, h, _, rfl, Fr.rf h, rfl, thr0 h'⟩
  · simp only [if_neg h1]
    exact ⟨_, h, _, rfl, Fr.rf h, rfl, thr0 h'⟩
end WH
/-! places: counting -/
def cn (P : Int → Bool) : Nat → Int → Int
  | 0, _ => 0
  | n + 1, x => (if P x = true then 1 else 0) + cn P n (x + 1)
theorem cn_add {P P1 P2 : Int → Bool} (hd : ∀ t, P t = (P1 t || P2 t)) (hx : ∀ t, ¬ (P1 t = true ∧ P2 t = true)) : ∀ (n : Nat) (x : Int), cn P n x = cn P1 n x + cn P2 n x := by
  intro n
  induction n with
  | zero => intro x; rfl
  | succ n ih =>
    intro x
    unfold cn
    rw [ih (x + 1), hd x]
    have := hx x
    cases h1 : P1 x <;> cases h2 : P2 x <;> simp_all <;> omega
theorem cn_none {P : Int → Bool} : ∀ (n : Nat) (x : Int), (∀ t, x ≤ t → t < x + n → P t = false) → cn P n x = 0 := by
  intro n
  induction n with
  | zero => intro x _; rfl
  | succ n ih =>
    intro x hp
    unfold cn
    rw [hp x (by omega) (by omega), ih (x + 1) (fun t t1 t2 => hp t (by omega) (by omega))]
    rfl
theorem cn_cong {P P' : Int → Bool} : ∀ (n : Nat) (x : Int), (∀ t, x ≤ t → t < x + n → P t = P' t) → cn P n x = cn P' n x := by
  intro n
  induction n with
  | zero => intro x _; rfl
  | succ n ih =>
    intro x hp
    unfold cn
    rw [hp x (by omega) (by omega), ih (x + 1) (fun t t1 t2 => hp t (by omega) (by omega))]
theorem cn_int (lo hi : Int) : ∀ (n : Nat) (x : Int), x ≤ lo → hi < x + n → cn (fun t => decide (lo ≤ t ∧ t ≤ hi)) n x = if lo ≤ hi then hi - lo + 1 else 0 := by
  intro n
  induction n with
  | zero =>
    intro x h1 h2
    rw [if_neg (by omega)]; rfl
  | succ n ih =>
    intro x h1 h2
    unfold cn
    by_cases c : x = lo
    · by_cases c2 : lo ≤ hi
      · rw [if_pos c2]
        have e1 : decide (lo ≤ x ∧ x ≤ hi) = true := decide_eq_true (by omega)
        simp only [e1, reduceIte]
        have e2 : cn (fun t => decide (lo ≤ t ∧ t ≤ hi)) n (x + 1) = cn (fun t => decide (lo + 1 ≤ t ∧ t ≤ hi)) n (x + 1) := cn_cong n (x + 1) (fun t t1 t2 => decide_eq_decide.mpr (by omega))
        have e3 : ∀ (n : Nat) (x lo : Int), x = lo → hi < x + n → cn (fun t => decide (lo ≤ t ∧ t ≤ hi)) n x = if lo ≤ hi then hi - lo + 1 else 0 := by
          intro n
          induction n with
          | zero => intro x lo h1 h2; rw [if_neg (by omega)]; rfl
          | succ n ih2 =>
            intro x lo h1 h2
            unfold cn
            by_cases c3 : lo ≤ hi
            · rw [if_pos c3]
              have e1 : decide (lo ≤ x ∧ x ≤ hi) = true := decide_eq_true (by omega)
              simp only [e1, reduceIte]
              have e4 : cn (fun t => decide (lo ≤ t ∧ t ≤ hi)) n (x + 1) = cn (fun t => decide (lo + 1 ≤ t ∧ t ≤ hi)) n (x + 1) := cn_cong n (x + 1) (fun t t1 t2 => decide_eq_decide.mpr (by omega))
              rw [e4, ih2 (x + 1) (lo + 1) (by omega) (by omega)]
              split <;> omega
            · rw [if_neg c3]
              have e1 : decide (lo ≤ x ∧ x ≤ hi) = false := decide_eq_false (by omega)
              simp only [e1]
              rw [cn_none n (x + 1) (fun t t1 t2 => decide_eq_false (by omega))]; rfl
        rw [e2, e3 n (x + 1) (lo + 1) (by omega) (by omega)]
        split <;> omega
      · rw [if_neg c2]
        have e1 : decide (lo ≤ x ∧ x ≤ hi) = false := decide_eq_false (by omega)
        simp only [e1]
        rw [cn_none n (x + 1) (fun t t1 t2 => decide_eq_false (by omega))]; rfl
    · have e1 : decide (lo ≤ x ∧ x ≤ hi) = false := decide_eq_false (by omega)
      simp only [e1]
      rw [ih (x + 1) (by omega) (by omega)]
      simp
