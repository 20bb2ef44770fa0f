/-! THE CLASS' ROWS GROW: copyOf; firstCrossing from its start -/
theorem xkd_old {h : xH} {r : Nat} (c n : Nat) (hr : r < hnx h) : xkd (hnew h c n) r = xkd h r := by
  match r with
  | 0 => rfl
  | 1 => rfl
  | k + 2 =>
    show ((h.1 ++ [(c, n)])[k]?).getD (99, 0) = (h.1[k]?).getD (99, 0)
    rw [List.getElem?_append_left (by unfold hnx at hr; omega)]
theorem xkd_nw (h : xH) (c n : Nat) : xkd (hnew h c n) (hnx h) = (c, n) := by
  show ((h.1 ++ [(c, n)])[h.1.length]?).getD (99, 0) = (c, n)
  rw [List.getElem?_append_right (Nat.le_refl _), Nat.sub_self]
  rfl
theorem kc_lt {h : xH} {r c : Nat} (hk : kc h r = c) (hc : c < 99) : r < hnx h := by
  unfold kc at hk
  match r with
  | 0 => have : (99 : Nat) = c := hk; omega
  | 1 => have : (99 : Nat) = c := hk; omega
  | k + 2 =>
    have hk' : ((h.1[k]?).getD (99, 0)).1 = c := hk
    apply Classical.byContradiction
    intro hn
    rw [List.getElem?_eq_none (by unfold hnx at hn; omega)] at hk'
    have : (99 : Nat) = c := hk'
    omega
theorem ofNat_i (n : Nat) : Int32.ofNat n = i32 (n : Int) := (Int32.ofInt_eq_ofNat (n := n)).symm
theorem cp_ok {h : xH} {a c m N : Nat} (hc : c < 99) (hk : kc h a = c) (hl : kl h a = m) (hm : m < N) (hN : N ≤ 60000) : cpOk c (hnew h c N) a (hnx h) 0 0 (i32 (m : Int)) := by
  have ha := kc_lt hk hc
  have e1 := nat_i m (by omega)
  have k1 : kc (hnew h c N) a = c := by unfold kc; rw [xkd_old c N ha]; exact hk
  have l1 : kl (hnew h c N) a = m := by unfold kl; rw [xkd_old c N ha]; exact hl
  have k2 : kc (hnew h c N) (hnx h) = c := by unfold kc; rw [xkd_nw]
  have l2 : kl (hnew h c N) (hnx h) = N := by unfold kl; rw [xkd_nw]
  refine ⟨k1, k2, by omega, by decide, by decide, fun z => ?_, ?_, ?_⟩
  · have := (i32_lt (b := 0) ⟨by omega, by omega⟩ ⟨by decide, by decide⟩).mp z
    omega
  · rw [e1, l1]; show 0 + m ≤ m; omega
  · rw [e1, l2]; show 0 + m ≤ N; omega
theorem c_copyJ {h : xH} {a m N : Nat} (hk : kc h a = 9) (hl : kl h a = m) (hm : m < N) (hN : N ≤ 60000) : fJ7_copyOf_c38d5 a (i32 (N : Int)) h = some (hnx h, cpJ (hnew h 9 N) a 0 (hnx h) 0 m) := by
  unfold fJ7_copyOf_c38d5
  have e1 := nat_i m (by omega)
  have e2 := nat_i N (by omega)
  have l1 : kl (hnew h 9 N) a = m := by unfold kl; rw [xkd_old 9 N (kc_lt hk (by decide))]; exact hl
  rw [if_pos hk, hl, ofNat_i, if_neg (fun z => by have := (i32_eq ⟨by omega, by omega⟩ ⟨by omega, by omega⟩).mp z; omega), e2]
  rw [if_pos ⟨fun z => by have := (i32_lt (b := 0) ⟨by omega, by omega⟩ ⟨by decide, by decide⟩).mp z; omega, hN⟩]
  simp only [lt_def]
  rw [l1, ofNat_i, c_min ⟨by omega, by omega⟩ ⟨by omega, by omega⟩, if_neg (show ¬ (N : Int) < m by omega), bd_some, if_pos (cp_ok (by decide) hk hl hm hN), e1]
  rfl
theorem c_copyI {h : xH} {a m N : Nat} (hk : kc h a = 8) (hl : kl h a = m) (hm : m < N) (hN : N ≤ 60000) : fJ7_copyOf_59c91 a (i32 (N : Int)) h = some (hnx h, cpI (hnew h 8 N) a 0 (hnx h) 0 m) := by
  unfold fJ7_copyOf_59c91
  have e1 := nat_i m (by omega)
  have e2 := nat_i N (by omega)
  have l1 : kl (hnew h 8 N) a = m := by unfold kl; rw [xkd_old 8 N (kc_lt hk (by decide))]; exact hl
  rw [if_pos hk, hl, ofNat_i, if_neg (fun z => by have := (i32_eq ⟨by omega, by omega⟩ ⟨by omega, by omega⟩).mp z; omega), e2]
  rw [if_pos ⟨fun z => by have := (i32_lt (b := 0) ⟨by omega, by omega⟩ ⟨by decide, by decide⟩).mp z; omega, hN⟩]
  simp only [lt_def]
  rw [l1, ofNat_i, c_min ⟨by omega, by omega⟩ ⟨by omega, by omega⟩, if_neg (show ¬ (N : Int) < m by omega), bd_some, if_pos (cp_ok (by decide) hk hl hm hN), e1]
  rfl
section CF
variable {MA MB MC X NP NQ : Int} {L : Nat → Ln} {n M r : Nat} {N : Int} {h : xH} {ls : List Nat}
theorem c_firstCrossing (kk : KonC MA MB MC X) (q : Lo h r M) (w : CLn h r L n) (hn : n ≤ M) (hM : M ≤ 60000) (bL : ∀ k, k < n → LBd MA MB MC (L k)) (I : LsI h r ls) (hl : ls.length ≤ n) (hls : ∀ o ∈ ls, o < n) {o : Nat} (ho : o < n) (xb : ∀ m ∈ ls, XB NP NQ (L o) (L m)) (hNP : NP ≤ 4611686018427387904) (hNQ : NQ * NQ ≤ 4611686018427387904) (hQ1 : NQ ≤ 2147483648) (c9 : hI h r 9 = i32 N) (hN : B32 N) : ∃ b' t' u', fX1_firstCrossing r (i32 o) h = some (i32 b', h) ∧ FcI L ls o N b' t' u' := by
  unfold fX1_firstCrossing
  rw [lt_def, lt_def, lt_def, lt_def, m1_32, z64, o64, show (0 : Int32) = i32 ((0 : Nat) : Int) from rfl]
  exact c_fc10 kk q w hn hM bL I hl hls ho xb hNP hNQ hQ1 c9 hN ls.length 0 FU (-1) 0 1 (by omega) (by rw [FU_eq]; omega) (Or.inl ⟨rfl, (fun m hm => by cases hm)⟩)
end CF
