/-! CALLS: cut, the class' loop -/
section CW
variable {cap : Nat → Nat} {lst : Nat → List Kn} {lo hi : Int} {ls : List Ln}
theorem fmC {α β : Type} (f : α → Option β) (a : α) (t : List α) : (a :: t).filterMap f = (f a).toList ++ t.filterMap f := by
  cases e : f a <;> simp [e]
theorem tl1 {α : Type} (o : Option α) : o.toList.length ≤ 1 := by
  cases o
  · exact Nat.zero_le _
  · exact Nat.le_refl _
theorem c_cul (hs : ls.length ≤ 12) (hb : ∀ l ∈ ls, LnB l) (b1 : -5940 ≤ lo ∧ lo ≤ 5940) (b2 : -5940 ≤ hi ∧ hi ≤ 5940) : ∀ (d k m : Nat) (h : xH) (ll : List Ln), k + d = ls.length → d < m → ShI h cap lst → CLl h 74 ls → CLl h 67 ll → ll.length + d ≤ 288 → ∃ h', fX6_cut_l49 m 2 (i32 lo) (i32 hi) (i32 (k : Int)) h = bd (fX6_ontoPaper 2 8 h') (fun w5 g3 => some (w5, g3)) ∧ CLl h' 67 (ll ++ (ls.drop k).filterMap (cuL lo hi)) ∧ Fr (AY 67) h h' := by
  intro d
  induction d with
  | zero =>
    intro k m h ll hk hm I w4 w7 hl
    obtain ⟨m, rfl⟩ : ∃ k, m = k + 1 := ⟨m - 1, by omega⟩
    have co := I.1
    have c0 := w4.1
    refine ⟨h, ?_, by rw [List.drop_eq_nil_of_le (by omega)]; simpa using w7, Fr.rf h⟩
    show fX6_cut_b49 _ 2 _ _ _ h = _
    unfold fX6_cut_b49
    rw [if_pos co.k2, co.r2_9, if_pos co.lo74.1, c0, if_pos ((i32_le ⟨by omega, by omega⟩ ⟨by omega, by omega⟩).mpr (by omega))]
  | succ d ih =>
    intro k m h ll hk hm I w4 w7 hl
    obtain ⟨m, rfl⟩ : ∃ k, m = k + 1 := ⟨m - 1, by omega⟩
    have co := I.1
    have c0 := w4.1
    have hkl : k < ls.length := by omega
    have hg : ls[k]? = some ls[k] := List.getElem?_eq_getElem hkl
    obtain ⟨h1, E1, w1, F1⟩ := c_addCut (lo := lo) (hi := hi) (k := k) co.lo74 co.lo67 w4 w7 (by omega) hg (by omega) (hb _ (List.getElem_mem _)) b1 b2
    have I1 := I.ay F1
    obtain ⟨h2, E2, w2, F2⟩ := ih (k + 1) m h1 _ (by omega) (by omega) I1 (w4.fr F1 (fun r c z y => by unfold AY at z y; omega)) w1 (by
      rw [List.length_append]
      have := tl1 (cuL lo hi ls[k])
      omega)
    refine ⟨h2, ?_, ?_, F1.tr F2⟩
    · show fX6_cut_b49 _ 2 _ _ _ h = _
      unfold fX6_cut_b49
      rw [if_pos co.k2, co.r2_9, if_pos co.lo74.1, c0, if_neg (fun z => by have := (i32_le ⟨by omega, by omega⟩ ⟨by omega, by omega⟩).mp z; omega), co.r2_8, if_pos co.lo67.1, E1, bd_some, lt_def, one32, i32_add, kp1]
      exact E2
    · rw [List.drop_eq_getElem_cons hkl, fmC]
      rw [List.append_assoc] at w2
      exact w2
end CW
