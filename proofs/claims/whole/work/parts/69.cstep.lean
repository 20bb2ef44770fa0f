/-! THE CLASS' SHAPES: one row of a shape grows -/
def Sh (h : xH) (s cap : Nat) : Prop := kc h s = 4 ∧ (∀ j, 1 ≤ j → j ≤ 4 → kc h (hR h s j) = 9 ∧ kl h (hR h s j) = cap) ∧ (kc h (hR h s 5) = 8 ∧ kl h (hR h s 5) = cap) ∧ ∀ i j, 1 ≤ i → i < j → j ≤ 4 → hR h s i ≠ hR h s j
def Ks (h : xH) (s : Nat) (ks : List Kn) : Prop := hI h s 0 = i32 ks.length ∧ ∀ (i : Nat) (k : Kn), ks[i]? = some k → hJ h (hR h s 1) i = i64 k.1.num ∧ hJ h (hR h s 2) i = i64 k.1.den ∧ hJ h (hR h s 3) i = i64 k.2.1.num ∧ hJ h (hR h s 4) i = i64 k.2.1.den ∧ hI h (hR h s 5) i = bz k.2.2
theorem grow_J {h : xH} {s j a m N : Nat} (hs : kc h s = 4) (hk : kc h a = 9) (hl : kl h a = m) (hm : m < N) (hN : N ≤ 60000) : ∃ h1, fJ7_copyOf_c38d5 a (i32 (N : Int)) h = some (hnx h, h1) ∧ Gr (fun r k => r = s ∧ k = j) h (sR h1 s j (hnx h)) ∧ hR (sR h1 s j (hnx h)) s j = hnx h ∧ kc (sR h1 s j (hnx h)) (hnx h) = 9 ∧ kl (sR h1 s j (hnx h)) (hnx h) = N ∧ (∀ k, k < m → hJ (sR h1 s j (hnx h)) (hnx h) k = hJ h a k) ∧ hnx (sR h1 s j (hnx h)) = hnx h + 1 ∧ kc (sR h1 s j (hnx h)) s = 4 ∧ (sR h1 s j (hnx h)).1 = h.1 ++ [(9, N)] := by
  have g := (Gr.cpJn (A := fun r k => r = s ∧ k = j) h a m N).tr (Gr.R (r := s) (k := j) (hnx h) ⟨rfl, rfl⟩)
  refine ⟨_, c_copyJ hk hl hm hN, g, by rw [hR_sR, if_pos ⟨rfl, rfl⟩], ?_, ?_, fun k hkm => ?_, ?_, ?_, rfl⟩
  · show kc (hnew h 9 N) (hnx h) = 9
    unfold kc; rw [xkd_nw]
  · show kl (hnew h 9 N) (hnx h) = N
    unfold kl; rw [xkd_nw]
  · rw [hJ_sR]; exact cpJ_at (kc_lt hk (by decide)) hkm
  · show (h.1 ++ [(9, N)]).length + 2 = h.1.length + 2 + 1
    rw [List.length_append]; rfl
  · show (xkd _ s).1 = 4
    rw [g.1.xkd (kc_lt hs (by decide))]; exact hs
theorem grow_I {h : xH} {s j a m N : Nat} (hs : kc h s = 4) (hk : kc h a = 8) (hl : kl h a = m) (hm : m < N) (hN : N ≤ 60000) : ∃ h1, fJ7_copyOf_59c91 a (i32 (N : Int)) h = some (hnx h, h1) ∧ Gr (fun r k => r = s ∧ k = j) h (sR h1 s j (hnx h)) ∧ hR (sR h1 s j (hnx h)) s j = hnx h ∧ kc (sR h1 s j (hnx h)) (hnx h) = 8 ∧ kl (sR h1 s j (hnx h)) (hnx h) = N ∧ (∀ k, k < m → hI (sR h1 s j (hnx h)) (hnx h) k = hI h a k) ∧ hnx (sR h1 s j (hnx h)) = hnx h + 1 ∧ kc (sR h1 s j (hnx h)) s = 4 ∧ (sR h1 s j (hnx h)).1 = h.1 ++ [(8, N)] := by
  have g := (Gr.cpIn (A := fun r k => r = s ∧ k = j) h a m N).tr (Gr.R (r := s) (k := j) (hnx h) ⟨rfl, rfl⟩)
  refine ⟨_, c_copyI hk hl hm hN, g, by rw [hR_sR, if_pos ⟨rfl, rfl⟩], ?_, ?_, fun k hkm => ?_, ?_, ?_, rfl⟩
  · show kc (hnew h 8 N) (hnx h) = 8
    unfold kc; rw [xkd_nw]
  · show kl (hnew h 8 N) (hnx h) = N
    unfold kl; rw [xkd_nw]
  · rw [hI_sR]; exact cpI_at (kc_lt hk (by decide)) hkm
  · show (h.1 ++ [(8, N)]).length + 2 = h.1.length + 2 + 1
    rw [List.length_append]; rfl
  · show (xkd _ s).1 = 4
    rw [g.1.xkd (kc_lt hs (by decide))]; exact hs
