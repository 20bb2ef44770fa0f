/-! THE START'S STATE -/
theorem crf_big {r k : Nat} (h : 92 ≤ r ∨ 16 ≤ k) : crf r k = none := by
  unfold crf
  split <;> first | rfl | omega
theorem F_co : Co hF := by
  refine ⟨fun r x e => ?_, fun r k x e => ?_⟩
  · have f : ∀ r, r < 94 → ckd r = none ∨ ckd r = some (xkd hF r) := by decide +kernel
    by_cases c : 94 ≤ r
    · rw [ckd_big c] at e; cases e
    · rcases f r (by omega) with f | f
      · rw [f] at e; cases e
      · rw [f] at e; exact Option.some.inj e
  · have f : ∀ r, r < 92 → ∀ k, k < 16 → crf r k = none ∨ crf r k = some (hR hF r k) := by decide +kernel
    by_cases c : 92 ≤ r ∨ 16 ≤ k
    · rw [crf_big c] at e; cases e
    · rcases f r (by omega) k (by omega) with f | f
      · rw [f] at e; cases e
      · rw [f] at e; exact Option.some.inj e
def bs (q : Nat) : Nat := if q < 7 then 94 + 6 * q else if q = 7 then 4 else if q < 16 then 14 + 6 * (q - 8) else 136 + 6 * (q - 16)
theorem f_sh : ∀ q, q < 30 → sh hF q = bs q := by decide +kernel
theorem f_k : ∀ q, q < 30 → kc hF (bs q) = 4 ∧ hI hF (bs q) 0 = 0 := by decide +kernel
theorem f_r : ∀ q, q < 30 → ∀ j, j < 6 → j = 0 ∨ (hR hF (bs q) j = bs q + j ∧ kl hF (bs q + j) = 12 ∧ kc hF (bs q + j) = if j = 5 then 8 else 9) := by decide +kernel
theorem f_c : ∀ q, q < 30 → ∀ j, j < 6 → ckd (bs q + j) = none ∧ 2 ≤ bs q + j ∧ bs q + j < 220 := by decide +kernel
theorem f_d : ∀ p, p < 30 → ∀ q, q < 30 → p = q ∨ bs p + 6 ≤ bs q ∨ bs q + 6 ≤ bs p := by decide +kernel
theorem f_ax {q r k : Nat} (hq : q < 30) (z : AX hF (sh hF q) r k) : ∃ j, j < 6 ∧ r = bs q + j := by
  rw [f_sh q hq] at z
  rcases z with z | ⟨j, j1, j2, z⟩
  · exact ⟨0, by decide, z⟩
  · rcases f_r q hq j (by omega) with f | f
    · omega
    · exact ⟨j, by omega, by rw [z, f.1]⟩
theorem F_sk {q : Nat} (hq : q < 30) : ShK hF (sh hF q) 12 [] := by
  rw [f_sh q hq]
  have g : ∀ j, 1 ≤ j → j < 6 → hR hF (bs q) j = bs q + j ∧ kl hF (bs q + j) = 12 ∧ kc hF (bs q + j) = if j = 5 then 8 else 9 := fun j j1 j2 => by
    rcases f_r q hq j j2 with f | f
    · omega
    · exact f
  refine ⟨⟨(f_k q hq).1, fun j j1 j2 => ?_, ?_, fun i j i1 ij j2 => ?_⟩, ⟨?_, fun i k e => by cases e⟩, by decide, by decide⟩
  · obtain ⟨a, b, c⟩ := g j j1 (by omega)
    rw [a, b, c, if_neg (by omega)]
    exact ⟨rfl, rfl⟩
  · obtain ⟨a, b, c⟩ := g 5 (by decide) (by decide)
    rw [a, b, c, if_pos rfl]
    exact ⟨rfl, rfl⟩
  · rw [(g i i1 (by omega)).1, (g j (by omega) (by omega)).1]
    omega
  · rw [(f_k q hq).2]; rfl
theorem F_sI : ShI hF (fun _ => 12) (fun _ => []) := by
  refine ⟨F_co, fun q hq => F_sk hq, fun p q hp hq ne r k k' z z' => ?_, fun q hq r k z => ?_, by decide +kernel⟩
  · obtain ⟨i, hi, e1⟩ := f_ax hp z
    obtain ⟨j, hj, e2⟩ := f_ax hq z'
    rcases f_d p hp q hq with d | d | d
    · exact ne d
    · omega
    · omega
  · obtain ⟨i, hi, e1⟩ := f_ax hq z
    have := f_c q hq i hi
    rw [e1]
    exact ⟨this.2.1, this.1, Or.inl this.2.2⟩
def aS0 : Ast := (fun _ => [], [], fun _ => none, (0, fun _ => 0), -1, 0, fun _ => 0)
theorem F_cu : CurOk (fun _ => []) := ⟨fun _ _ => can_nil, ⟨by decide, fun k hk => absurd hk List.not_mem_nil⟩, _, _, can_nil.2⟩
theorem F_ok : AOk aS0 := ⟨F_cu, fun u hu => absurd hu List.not_mem_nil, (fun k f _ e => by cases e), by decide⟩
theorem F_c : CSt hF aS0 := by
  refine ⟨fun _ => 12, fun _ => [], ⟨F_sI, ⟨0, by decide, by decide +kernel, by decide, by decide +kernel, fun t u e => by cases e⟩, fun k hk => ⟨?_, fun f e => by cases e⟩⟩, fun _ _ => rfl, ⟨by decide +kernel, by decide +kernel⟩, by decide +kernel, ?_, by decide +kernel, by decide +kernel, fun k hk => absurd hk (Nat.not_lt_zero k)⟩
  · have f : ∀ k, k < 2 → hI hF 63 k = 0 := by decide +kernel
    exact f k hk
  · have f : ∀ k, k < 7 → hI hF 66 k = 0 := by decide +kernel
    exact f
theorem mrf_big {k : Nat} (h : 44 ≤ k) : mrf k = 0 := by
  unfold mrf
  split <;> first | rfl | omega
theorem gt_big {α : Type} {l : List (Nat × Nat × α)} {z : α} {a B r k : Nat} (f : (l.take a).all (fun e => decide (e.2.1 < B)) = true) (h : B ≤ k) : gt l z a r k = z := by
  unfold gt
  exact fo_cl _ _ (fun e he => Or.inr (by have := of_decide_eq_true (List.all_eq_true.mp f e he); omega))
theorem hR_HS {n a b c r k : Nat} : hR (HS n a b c) r k = gt wR 0 c r k := by
  unfold hR HS
  rfl
theorem F_mo : Mo hF := by
  refine ⟨fun r r1 r2 => ?_, fun k => ?_⟩
  · have f : ∀ r, r < 250 → 220 ≤ r → xkd hF r = mkd r := by decide +kernel
    exact f r r2 r1
  · by_cases c : 44 ≤ k
    · rw [mrf_big c]
      unfold hF
      rw [hR_HS]
      exact gt_big (B := 44) (by decide +kernel) c
    · have f : ∀ k, k < 44 → hR hF 220 k = mrf k := by decide +kernel
      exact f k (by omega)
theorem F_m : MSt hF aS0 := by
  refine ⟨⟨F_mo, fun i hi => ⟨?_, fun k hk => absurd hk (Nat.not_lt_zero k)⟩, (fun i k e => by cases e), by decide +kernel⟩, ⟨0, by decide, by decide +kernel, by decide, by decide +kernel, fun t u e => by cases e⟩, fun k hk => ⟨?_, fun f e => by cases e⟩, by decide +kernel, ?_, by decide +kernel, by decide +kernel, fun k hk => absurd hk (Nat.not_lt_zero k)⟩
  · have f : ∀ i, i < 6 → hI hF 222 (37 * i) = 0 := by decide +kernel
    exact f i hi
  · have f : ∀ k, k < 2 → hI hF 234 k = 0 := by decide +kernel
    exact f k hk
  · have f : ∀ k, k < 7 → hI hF 221 k = 0 := by decide +kernel
    exact f
theorem law_all (n : Nat) (xs : Nat → Int32) (hn : n ≤ 3072) : ∃ h', fL_law n xs hE0 = some (1, h') ∧ cnt h' ≤ 600000 ∧ siz h' ≤ 7302250 := by
  rw [law_st n xs]
  exact law_loop xs hn 513 99999 0 hF aS0 (by omega) (by decide) (by omega) F_ok F_c F_m
