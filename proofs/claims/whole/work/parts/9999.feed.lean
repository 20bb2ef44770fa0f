/-! CALLS: feed -/
def byt (w s : Int32) : Int32 := (((w.toUInt32 >>> (s.toUInt32 &&& Int32.toUInt32 31)).toInt32).toInt8.toInt32).toInt8.toInt32
def tapA (S : Ast) (v : Int32) : Ast := (aC S, aU S, aI S, ((aT S).1 + 1, upA (aT S).2 (aT S).1 v), aF S, aS S, aR S)
def worA (S : Ast) (w : Int32) : Ast := tapA (tapA (tapA (tapA S (byt w 24)) (byt w 16)) (byt w 8)) (byt w 0)
section FE
variable {h : xH} {S : Ast}
theorem AOk.tap {v : Int32} (K : AOk S) (hn : (aT S).1 < 400) : AOk (tapA S v) := ⟨K.1, K.2.1, K.2.2.1, by show (aT S).1 + 1 ≤ 400; omega⟩
theorem c_byte (C : CSt h S) (v : Int32) : CSt (sI (sI h 65 (aT S).1 v) 64 0 (i32 (((aT S).1 + 1 : Nat) : Int))) (tapA S v) ∧ Out h (sI (sI h 65 (aT S).1 v) 64 0 (i32 (((aT S).1 + 1 : Nat) : Int))) := by
  obtain ⟨cap, lst, c1, c2, c3, c4, c5⟩ := C
  have f : Fr (fun r c => (r = 65 ∧ c = (aT S).1) ∨ (r = 64 ∧ c = 0)) h (sI (sI h 65 (aT S).1 v) 64 0 (i32 (((aT S).1 + 1 : Nat) : Int))) := (Fr.I _ (Or.inl ⟨rfl, rfl⟩)).tr (Fr.I _ (Or.inr ⟨rfl, rfl⟩))
  refine ⟨⟨cap, lst, c1.fr f (fun r k fr z => ?_) (fun k => by omega), c2, c3, by rw [(f.2.2 2 6 (by omega)).1]; exact c4, fun k hk => by rw [(f.2.2 66 k (by omega)).1]; exact c5.1 k hk, ?_, by rw [(f.2.2 64 1 (by omega)).1]; exact c5.2.2.1, fun k hk => ?_⟩, f.out (fun r k p q => by omega)⟩
  · have := fr.2.1
    rcases z with z | z <;> rw [z.1] at this <;> cases this
  · rw [hI_sI, if_pos ⟨rfl, rfl⟩]; rfl
  · have hk : k < (aT S).1 + 1 := hk
    show _ = upA (aT S).2 (aT S).1 v k
    unfold upA
    rw [hI_sI, if_neg (by omega), hI_sI]
    by_cases c : k = (aT S).1
    · rw [if_pos ⟨rfl, c⟩, if_pos c]
    · rw [if_neg (fun z => c z.2), if_neg c]; exact c5.2.2.2 k (by omega)
theorem m_byte (K : AOk S) (M : MSt h S) (v : Int32) : MSt (sI (sI h 246 (aT S).1 v) 220 36 (i32 (((aT S).1 + 1 : Nat) : Int))) (tapA S v) ∧ Fr In220 h (sI (sI h 246 (aT S).1 v) 220 36 (i32 (((aT S).1 + 1 : Nat) : Int))) := by
  obtain ⟨m1, m2, m3, m4, m5⟩ := M
  have f : Fr (fun r c => (r = 246 ∧ c = (aT S).1) ∨ (r = 220 ∧ c = 36)) h (sI (sI h 246 (aT S).1 v) 220 36 (i32 (((aT S).1 + 1 : Nat) : Int))) := (Fr.I _ (Or.inl ⟨rfl, rfl⟩)).tr (Fr.I _ (Or.inr ⟨rfl, rfl⟩))
  have mc := MCo.fr ⟨m1, m2, m3⟩ K f (fun r c p q => by omega) (by omega)
  refine ⟨⟨mc.1, mc.2.1, mc.2.2, by rw [(f.2.2 220 1 (by omega)).1]; exact m4, fun k hk => by rw [(f.2.2 221 k (by omega)).1]; exact m5.1 k hk, ?_, by rw [(f.2.2 220 37 (by omega)).1]; exact m5.2.2.1, fun k hk => ?_⟩, f.mono (fun r c z => by unfold In220; omega)⟩
  · rw [hI_sI, if_pos ⟨rfl, rfl⟩]; rfl
  · have hk : k < (aT S).1 + 1 := hk
    show _ = upA (aT S).2 (aT S).1 v k
    unfold upA
    rw [hI_sI, if_neg (by omega), hI_sI]
    by_cases c : k = (aT S).1
    · rw [if_pos ⟨rfl, c⟩, if_pos c]
    · rw [if_neg (fun z => c z.2), if_neg c]; exact m5.2.2.2 k (by omega)
theorem c_bst (C : CSt h S) (hn : (aT S).1 < 400) (w s : Int32) (hs : ¬ s < 0) (m : Nat) : fX5_appendWord_l3 (m + 1) 64 w s h = fX5_appendWord_l3 m 64 w (s + (-8 : Int32)) (sI (sI h 65 (aT S).1 (byt w s)) 64 0 (i32 (((aT S).1 + 1 : Nat) : Int))) := by
  obtain ⟨cap, lst, c1, c2, c3, c4, c5⟩ := C
  have co := c1.1.1
  have x1 : ix (i32 ((aT S).1 : Int)) 400 := ix_i (by omega) (by omega) (by decide)
  have n1 := nat_i (aT S).1 (by omega)
  have nl : ¬ (400 : Int32) ≤ i32 ((aT S).1 : Int) := fun z => by have := (i32_le (a := 400) (b := ((aT S).1 : Int)) ⟨by decide, by decide⟩ ⟨by omega, by omega⟩).mp z; omega
  show fX5_appendWord_b3 _ 64 _ _ h = _
  unfold fX5_appendWord_b3
  rw [if_neg hs, if_pos co.k64, c5.2.1, if_neg nl, co.r64_2, if_pos co.k65, co.l65, if_pos x1]
  simp only [n1]
  rw [lt_def, hI_sI, if_neg (by omega), c5.2.1, one32, i32_add, kp1, lt_def, lt_def]
  rfl
theorem m_bst (M : MSt h S) (hn : (aT S).1 < 400) (w s : Int32) (hs : ¬ s < 0) (m : Nat) : fX7_comes_l3 (m + 1) 220 w s h = fX7_comes_l3 m 220 w (s + (-8 : Int32)) (sI (sI h 246 (aT S).1 (byt w s)) 220 36 (i32 (((aT S).1 + 1 : Nat) : Int))) := by
  obtain ⟨m1, m2, m3, m4, m5⟩ := M
  have q := m1.1
  have x1 : ix (i32 ((aT S).1 : Int)) 400 := ix_i (by omega) (by omega) (by decide)
  have n1 := nat_i (aT S).1 (by omega)
  show fX7_comes_b3 _ 220 _ _ h = _
  unfold fX7_comes_b3
  rw [if_neg hs, if_pos q.k220, q.r35, if_pos q.k246, q.l246, m5.2.1, if_pos x1]
  simp only [n1]
  rw [lt_def, hI_sI, if_neg (by omega), m5.2.1, one32, i32_add, kp1, lt_def, lt_def]
  rfl
theorem c_word (C : CSt h S) (hn : (aT S).1 + 4 ≤ 400) (w : Int32) : ∃ g, fX5_appendWord 64 w h = some ((), g) ∧ CSt g (worA S w) ∧ Out h g := by
  obtain ⟨m, em⟩ : ∃ m, FU = m + 5 := ⟨FU - 5, by rw [FU_eq]⟩
  obtain ⟨C1, O1⟩ := c_byte C (byt w 24)
  obtain ⟨C2, O2⟩ := c_byte C1 (byt w 16)
  obtain ⟨C3, O3⟩ := c_byte C2 (byt w 8)
  obtain ⟨C4, O4⟩ := c_byte C3 (byt w 0)
  have t1 : (aT (tapA S (byt w 24))).1 = (aT S).1 + 1 := rfl
  have t2 : (aT (tapA (tapA S (byt w 24)) (byt w 16))).1 = (aT S).1 + 2 := rfl
  have t3 : (aT (tapA (tapA (tapA S (byt w 24)) (byt w 16)) (byt w 8))).1 = (aT S).1 + 3 := rfl
  have E1 := c_bst C (by omega) w 24 (by decide) (m + 4)
  have E2 := c_bst C1 (by omega) w 16 (by decide) (m + 3)
  have E3 := c_bst C2 (by omega) w 8 (by decide) (m + 2)
  have E4 := c_bst C3 (by omega) w 0 (by decide) (m + 1)
  refine ⟨_, ?_, C4, ((O1.tr O2).tr O3).tr O4⟩
  unfold fX5_appendWord
  rw [lt_def, em]
  refine E1.trans ((show _ = _ from E2).trans ((show _ = _ from E3).trans ((show _ = _ from E4).trans ?_)))
  show fX5_appendWord_b3 _ 64 _ _ _ = _
  unfold fX5_appendWord_b3
  rw [if_pos (by decide)]
theorem m_word (K : AOk S) (M : MSt h S) (hn : (aT S).1 + 4 ≤ 400) (w : Int32) : ∃ g, fX7_comes 220 w h = some ((), g) ∧ AOk (worA S w) ∧ MSt g (worA S w) ∧ Fr In220 h g := by
  obtain ⟨m, em⟩ : ∃ m, FU = m + 5 := ⟨FU - 5, by rw [FU_eq]⟩
  have t1 : (aT (tapA S (byt w 24))).1 = (aT S).1 + 1 := rfl
  have t2 : (aT (tapA (tapA S (byt w 24)) (byt w 16))).1 = (aT S).1 + 2 := rfl
  have t3 : (aT (tapA (tapA (tapA S (byt w 24)) (byt w 16)) (byt w 8))).1 = (aT S).1 + 3 := rfl
  have K1 := K.tap (v := byt w 24) (by omega)
  have K2 := K1.tap (v := byt w 16) (by omega)
  have K3 := K2.tap (v := byt w 8) (by omega)
  have K4 := K3.tap (v := byt w 0) (by omega)
  obtain ⟨C1, O1⟩ := m_byte K M (byt w 24)
  obtain ⟨C2, O2⟩ := m_byte K1 C1 (byt w 16)
  obtain ⟨C3, O3⟩ := m_byte K2 C2 (byt w 8)
  obtain ⟨C4, O4⟩ := m_byte K3 C3 (byt w 0)
  have E1 := m_bst M (by omega) w 24 (by decide) (m + 4)
  have E2 := m_bst C1 (by omega) w 16 (by decide) (m + 3)
  have E3 := m_bst C2 (by omega) w 8 (by decide) (m + 2)
  have E4 := m_bst C3 (by omega) w 0 (by decide) (m + 1)
  refine ⟨_, ?_, K4, C4, ((O1.tr O2).tr O3).tr O4⟩
  unfold fX7_comes
  rw [lt_def, em]
  refine E1.trans ((show _ = _ from E2).trans ((show _ = _ from E3).trans ((show _ = _ from E4).trans ?_)))
  show fX7_comes_b3 _ 220 _ _ _ = _
  unfold fX7_comes_b3
  rw [if_pos (by decide)]
theorem wor_len (w : Int32) : (aT (worA S w)).1 = (aT S).1 + 4 := rfl
theorem CSt.co (C : CSt h S) : Co h := by
  obtain ⟨cap, lst, c1, c2, c3, c4, c5⟩ := C
  exact c1.1.1
theorem CSt.tl (C : CSt h S) : hI h 64 0 = i32 ((aT S).1 : Int) := by
  obtain ⟨cap, lst, c1, c2, c3, c4, c5⟩ := C
  exact c5.2.1
theorem Cal_feed (a b c d e : Int32) : Cal (fX6_feed 2 a b c d e) (fX7_feed 220 a b c d e) := by
  intro h S K C M
  have tl := K.2.2.2
  have co := C.co
  have f0 : ∀ g : xH, Fr (fun r c => r = 220 ∧ c = 0) g (sI g 220 0 0) := fun g => Fr.I _ ⟨rfl, rfl⟩
  have fI : ∀ g : xH, Fr In220 g (sI g 220 0 0) := fun g => (f0 g).mono (fun r c z => by unfold In220; omega)
  have l1 : i32 (((aT S).1 : Int) + 20) ≤ (400 : Int32) ↔ ((aT S).1 : Int) + 20 ≤ 400 := i32_le (b := 400) ⟨by omega, by omega⟩ ⟨by decide, by decide⟩
  have l2 : i32 ((aT S).1 : Int) ≤ (380 : Int32) ↔ ((aT S).1 : Int) ≤ 380 := i32_le (b := 380) ⟨by omega, by omega⟩ ⟨by decide, by decide⟩
  by_cases cc : (aT S).1 ≤ 380
  · obtain ⟨g1, E1, C1, O1⟩ := c_word C (by omega) a
    obtain ⟨g2, E2, C2, O2⟩ := c_word C1 (by rw [wor_len]; omega) b
    obtain ⟨g3, E3, C3, O3⟩ := c_word C2 (by rw [wor_len, wor_len]; omega) c
    obtain ⟨g4, E4, C4, O4⟩ := c_word C3 (by rw [wor_len, wor_len, wor_len]; omega) d
    obtain ⟨g5, E5, C5, O5⟩ := c_word C4 (by rw [wor_len, wor_len, wor_len, wor_len]; omega) e
    have M5 := M.out ((((O1.tr O2).tr O3).tr O4).tr O5)
    have M0 := M5.sm K (f0 g5) (fun r c z => by omega)
    obtain ⟨k1, G1, A1, N1, P1⟩ := m_word K M0 (by omega) a
    obtain ⟨k2, G2, A2, N2, P2⟩ := m_word A1 N1 (by rw [wor_len]; omega) b
    obtain ⟨k3, G3, A3, N3, P3⟩ := m_word A2 N2 (by rw [wor_len, wor_len]; omega) c
    obtain ⟨k4, G4, A4, N4, P4⟩ := m_word A3 N3 (by rw [wor_len, wor_len, wor_len]; omega) d
    obtain ⟨k5, G5, A5, N5, P5⟩ := m_word A4 N4 (by rw [wor_len, wor_len, wor_len, wor_len]; omega) e
    refine ⟨i32 ((aT (worA (worA (worA (worA (worA S a) b) c) d) e)).1 : Int), g5, k5, _, ?_, ?_, A5, C5.inn ((((((fI g5).tr P1).tr P2).tr P3).tr P4).tr P5), N5⟩
    · have l1' : i32 ((aT S).1 : Int) + (20 : Int32) ≤ (400 : Int32) := by
        rw [show (20 : Int32) = i32 20 from rfl, i32_add]
        exact l1.mpr (by omega)
      unfold fX6_feed
      rw [if_pos co.k2, co.r2_5, if_pos co.k64, C.tl, if_pos l1', E1, bd_some, C1.co.r2_5, if_pos C1.co.k64, E2, bd_some, C2.co.r2_5, if_pos C2.co.k64, E3, bd_some, C3.co.r2_5, if_pos C3.co.k64, E4, bd_some, C4.co.r2_5, if_pos C4.co.k64, E5, bd_some, C5.co.r2_5, if_pos C5.co.k64, C5.tl]
    · unfold fX7_feed
      rw [if_pos M5.1.1.k220, lt_def, M0.2.2.2.2.2.1, if_pos (l2.mpr (by omega)), G1, bd_some, G2, bd_some, G3, bd_some, G4, bd_some, G5, bd_some, N5.2.2.2.2.2.1]
  · have M0 := M.sm K (f0 h) (fun r c z => by omega)
    refine ⟨-1, h, sI h 220 0 0, S, ?_, ?_, K, C.inn (fI h), M0⟩
    · have l1' : ¬ i32 ((aT S).1 : Int) + (20 : Int32) ≤ (400 : Int32) := by
        rw [show (20 : Int32) = i32 20 from rfl, i32_add]
        intro z
        have := l1.mp z; omega
      unfold fX6_feed
      rw [if_pos co.k2, co.r2_5, if_pos co.k64, C.tl, if_neg l1']
    · unfold fX7_feed
      rw [if_pos M.1.1.k220, lt_def, M0.2.2.2.2.2.1, if_neg (fun z => by have := l2.mp z; omega)]
end FE
