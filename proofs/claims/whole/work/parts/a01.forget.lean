/-! THE REFERENCE: one more line; the first lines go -/
section FG
variable {h : xH} {ls ll : List Ln}
theorem m_lineL (q : Mo h) (w : Lnl h ll) (hl : ll.length < 700) (a b A B C : Int) : ∃ h', fX7_line 220 (i32 a) (i32 b) (i64 A) (i64 B) (i64 C) h = some ((), h') ∧ Lnl h' (ll ++ [(a, b, A, B, C)]) ∧ Fr AI h h' := by
  refine ⟨_, m_line q hl w.1 _ _ _ _ _, ⟨?_, fun k l e => ?_⟩, ?_⟩
  · rw [hI_sI, if_pos ⟨rfl, rfl⟩, List.length_append]; rfl
  · simp only [hI_sI, hJ_sI, hI_sJ, hJ_sJ]
    rcases app_at e with ⟨hk, e2⟩ | ⟨hk, e2⟩
    · have v := w.2 k l e2
      rw [if_neg (by omega), if_neg (by omega), if_neg (by omega), if_neg (by omega), if_neg (by omega), if_neg (by omega), if_neg (by omega), if_neg (by omega), if_neg (by omega), if_neg (by omega), if_neg (by omega), if_neg (by omega), if_neg (by omega), if_neg (by omega), if_neg (by omega)]
      exact v
    · subst hk; rw [e2]
      simp [lnF, lnT, lnA, lnB, lnC]
  · exact (((((Fr.I _ (Or.inl rfl)).tr (Fr.I _ (Or.inr (Or.inl rfl)))).tr (Fr.J _ (Or.inr (Or.inr (Or.inl rfl))))).tr (Fr.J _ (Or.inr (Or.inr (Or.inr (Or.inl rfl)))))).tr (Fr.J _ (Or.inr (Or.inr (Or.inr (Or.inr (Or.inl rfl))))))).tr (Fr.I _ (Or.inr (Or.inr (Or.inr (Or.inr (Or.inr ⟨rfl, rfl⟩))))))
/-- one line's cells -/
def Cel (h : xH) (k : Nat) (l : Ln) : Prop := hI h 235 k = i32 (lnF l) ∧ hI h 236 k = i32 (lnT l) ∧ hJ h 237 k = i64 (lnA l) ∧ hJ h 238 k = i64 (lnB l) ∧ hJ h 239 k = i64 (lnC l)
theorem m_fgl {N : Nat} (hN : N + ll.length ≤ 700) : ∀ (d k m : Nat) (h : xH), k + d = ll.length → d < m → Mo h → hI h 220 19 = i32 (ll.length : Int) → (∀ (j : Nat) (l : Ln), ll[j]? = some l → (j < k → Cel h j l) ∧ (k ≤ j → Cel h (N + j) l)) → ∃ h', fX7_forget_l12 m 220 (i32 (N : Int)) (i32 (k : Int)) h = some ((), h') ∧ Lnl h' ll ∧ Fr AI h h' := by
  intro d
  induction d with
  | zero =>
    intro k m h hk hm q c w
    obtain ⟨m, rfl⟩ : ∃ k, m = k + 1 := ⟨m - 1, by omega⟩
    refine ⟨h, ?_, ⟨c, fun j l e => (w j l e).1 (by have := (List.getElem?_eq_some_iff.mp e).1; omega)⟩, Fr.rf h⟩
    show fX7_forget_b12 _ 220 _ _ h = _
    unfold fX7_forget_b12
    rw [if_pos q.k220, c, if_pos ((i32_le ⟨by omega, by omega⟩ ⟨by omega, by omega⟩).mpr (by omega))]
  | succ d ih =>
    intro k m h hk hm q c w
    obtain ⟨m, rfl⟩ : ∃ k, m = k + 1 := ⟨m - 1, by omega⟩
    have hkl : k < ll.length := by omega
    have hg : ll[k]? = some ll[k] := List.getElem?_eq_getElem hkl
    have v := (w k _ hg).2 (Nat.le_refl _)
    obtain ⟨v1, v2, v3, v4, v5⟩ := v
    have xk : ix (i32 (k : Int)) 700 := ix_i (by omega) (by omega) (by decide)
    have xn : ix (i32 ((k : Int) + (N : Int))) 700 := ix_i (by omega) (by omega) (by decide)
    have nk := nat_i k (by omega)
    have nn : (i32 ((k : Int) + (N : Int))).toNatClampNeg = N + k := by rw [i32_nat (by omega) (by omega)]; omega
    have F1 : Fr AI h (sJ (sJ (sJ (sI (sI h 235 k (i32 (lnF ll[k]))) 236 k (i32 (lnT ll[k]))) 237 k (i64 (lnA ll[k]))) 238 k (i64 (lnB ll[k]))) 239 k (i64 (lnC ll[k]))) := ((((Fr.I _ (Or.inl rfl)).tr (Fr.I _ (Or.inr (Or.inl rfl)))).tr (Fr.J _ (Or.inr (Or.inr (Or.inl rfl))))).tr (Fr.J _ (Or.inr (Or.inr (Or.inr (Or.inl rfl)))))).tr (Fr.J _ (Or.inr (Or.inr (Or.inr (Or.inr (Or.inl rfl))))))
    obtain ⟨h2, E2, A2, F2⟩ := ih (k + 1) m _ (by omega) (by omega) (F1.mo q) (by rw [hI_sJ, hI_sJ, hI_sJ, hI_sI, if_neg (by omega), hI_sI, if_neg (by omega)]; exact c) (fun j l e => by
      have wj := w j l e
      refine ⟨fun z => ?_, fun z => ?_⟩
      · by_cases ek : j = k
        · subst ek
          rw [hg] at e
          have el := Option.some.inj e
          unfold Cel
          simp only [hI_sI, hJ_sI, hI_sJ, hJ_sJ]
          rw [← el]
          simp
        · have wc := wj.1 (by omega)
          unfold Cel
          simp only [hI_sI, hJ_sI, hI_sJ, hJ_sJ]
          rw [if_neg (by omega), if_neg (by omega), if_neg (by omega), if_neg (by omega), if_neg (by omega), if_neg (by omega), if_neg (by omega), if_neg (by omega), if_neg (by omega), if_neg (by omega), if_neg (by omega), if_neg (by omega), if_neg (by omega)]
          exact wc
      · have wc := wj.2 (by omega)
        unfold Cel
        simp only [hI_sI, hJ_sI, hI_sJ, hJ_sJ]
        rw [if_neg (by omega), if_neg (by omega), if_neg (by omega), if_neg (by omega), if_neg (by omega), if_neg (by omega), if_neg (by omega), if_neg (by omega), if_neg (by omega), if_neg (by omega), if_neg (by omega), if_neg (by omega), if_neg (by omega)]
        exact wc)
    refine ⟨h2, ?_, A2, F1.tr F2⟩
    show fX7_forget_b12 _ 220 _ _ h = _
    unfold fX7_forget_b12
    rw [if_pos q.k220, c, if_neg (fun z => by have := (i32_le ⟨by omega, by omega⟩ ⟨by omega, by omega⟩).mp z; omega)]
    simp only [lt_def, i32_add, one32, kp1, kc_sI, kc_sJ, kl_sI, kl_sJ, hR_sI, hR_sJ, hI_sI, hJ_sI, hI_sJ, hJ_sJ, q.r20, q.r21, q.r22, q.r23, q.r24, q.k235, q.k236, q.k237, q.k238, q.k239, q.l235, q.l236, q.l237, q.l238, q.l239, if_pos xk, if_pos xn, nk, nn, v1, v2, v3, v4, v5, false_and, if_false, reduceIte]
    exact E2
theorem m_forget (q : Mo h) (w : Lnl h (ls ++ ll)) (hl : ls.length + ll.length ≤ 700) : ∃ h', fX7_forget 220 (i32 (ls.length : Int)) h = some ((), h') ∧ Lnl h' ll ∧ Fr AI h h' := by
  have f0 : Fr AI h (sI h 220 19 (i32 (ll.length : Int))) := Fr.I _ (Or.inr (Or.inr (Or.inr (Or.inr (Or.inr ⟨rfl, rfl⟩)))))
  obtain ⟨h', E, A, F⟩ := m_fgl (N := ls.length) (ll := ll) hl ll.length 0 FU (sI h 220 19 (i32 (ll.length : Int))) (by omega) (by rw [FU_eq]; omega) (f0.mo q) (by rw [hI_sI, if_pos ⟨rfl, rfl⟩]) (fun j l e => ⟨fun z => absurd z (Nat.not_lt_zero j), fun _ => by
    have v := w.2 (ls.length + j) l (by rw [List.getElem?_append_right (by omega), show ls.length + j - ls.length = j by omega]; exact e)
    unfold Cel
    rw [hI_sI, if_neg (by omega), hI_sI, if_neg (by omega), hJ_sI, hJ_sI, hJ_sI]
    exact v⟩)
  refine ⟨h', ?_, A, f0.tr F⟩
  have E' : fX7_forget_l12 FU 220 (i32 (ls.length : Int)) 0 (sI h 220 19 (i32 (ll.length : Int))) = some ((), h') := E
  unfold fX7_forget
  rw [if_pos q.k220, lt_def, lt_def, w.1, List.length_append, i32_sub, show ((ls.length + ll.length : Nat) : Int) - (ls.length : Int) = (ll.length : Int) by omega]
  exact E'
end FG
