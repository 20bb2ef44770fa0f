/-! THE CLASS' lowestLive -/
def LwI (L : Nat → Ln) (ls : List Nat) (x b : Int) : Prop := (b = -1 ∧ ls = []) ∨ ∃ o : Nat, b = o ∧ o ∈ ls ∧ ∀ m ∈ ls, vl (L o) x < vl (L m) x ∨ (vl (L o) x = vl (L m) x ∧ sl (L o) ≤ sl (L m))
section CW
variable {MA MB MC X : Int} {L : Nat → Ln} {n M r : Nat} {x : Int} {h : xH} {ls : List Nat}
theorem take_memN {k : Nat} {p : Nat} (hg : ls[k]? = some p) (q : Nat) : q ∈ ls.take (k + 1) ↔ q ∈ ls.take k ∨ q = p := by
  rw [List.take_succ, hg, List.mem_append]
  simp
theorem c_low4 (kk : KonC MA MB MC X) (q : Lo h r M) (w : CLn h r L n) (hn : n ≤ M) (hM : M ≤ 60000) (bL : ∀ k, k < n → LBd MA MB MC (L k)) (I : LsI h r ls) (hl : ls.length ≤ n) (hls : ∀ o ∈ ls, o < n) (hx : ls ≠ [] → -X ≤ x ∧ x ≤ X) : ∀ (d k m : Nat) (b : Int), k + d = ls.length → d < m → LwI L (ls.take k) x b → ∃ b', fX1_lowestLive_l4 m r (i32 x) (i32 b) (i32 k) h = some (i32 b', h) ∧ LwI L ls x b' := by
  intro d
  induction d with
  | zero =>
    intro k m b hk hm u
    obtain ⟨m, rfl⟩ : ∃ k, m = k + 1 := ⟨m - 1, by omega⟩
    rw [List.take_of_length_le (by omega)] at u
    refine ⟨b, ?_, u⟩
    show fX1_lowestLive_b4 _ _ _ _ _ _ = _
    unfold fX1_lowestLive_b4
    rw [if_pos q.1, I.1, if_pos ((i32_le ⟨by omega, by omega⟩ ⟨by omega, by omega⟩).mpr (by omega))]
  | succ d ih =>
    intro k m b hk hm u
    obtain ⟨m, rfl⟩ : ∃ k, m = k + 1 := ⟨m - 1, by omega⟩
    have hkl : k < ls.length := by omega
    have hg : ls[k]? = some ls[k] := List.getElem?_eq_getElem hkl
    have hmem : ls[k] ∈ ls := List.getElem_mem _
    have hp := hls _ hmem
    have hv := I.2 k _ hg
    have hX := hx (fun z => by rw [z] at hkl; simp at hkl)
    generalize ls[k] = p at *
    have e1 := nat_i k (by omega)
    have x1 : ix (i32 k) M := ix_i (by omega) (by omega) (by omega)
    have nx : ∀ v : Int32, fX1_lowestLive_b61 (fX1_lowestLive_l4 m) r (i32 x) v (i32 k) h = fX1_lowestLive_l4 m r (i32 x) v (i32 ((k + 1 : Nat) : Int)) h := by
      intro v; unfold fX1_lowestLive_b61; rw [lt_def, one32, i32_add]; rfl
    have setp : (∀ j ∈ ls.take k, vl (L p) x < vl (L j) x ∨ (vl (L p) x = vl (L j) x ∧ sl (L p) ≤ sl (L j))) → ∃ b', fX1_lowestLive_l4 m r (i32 x) (i32 p) (i32 ((k + 1 : Nat) : Int)) h = some (i32 b', h) ∧ LwI L ls x b' := by
      intro hmin
      refine ih (k + 1) m p (by omega) (by omega) (Or.inr ⟨p, rfl, (take_memN hg p).mpr (Or.inr rfl), fun j hj => ?_⟩)
      rcases (take_memN hg j).mp hj with z | z
      · exact hmin j z
      · rw [z]; right; exact ⟨rfl, by grind⟩
    show ∃ b', fX1_lowestLive_b4 _ _ _ _ _ _ = _ ∧ _
    unfold fX1_lowestLive_b4
    rw [if_pos q.1, I.1, if_neg (fun z => by have := (i32_le ⟨by omega, by omega⟩ ⟨by omega, by omega⟩).mp z; omega)]
    simp only [lt_def, q.2.1 6 (by decide) (by decide), q.2.2.2.2.2.2.2.1, q.2.2.2.2.2.2.2.2, if_pos x1, e1, hv, reduceIte]
    unfold fX1_lowestLive_b36 fX1_lowestLive_b58
    simp only [nx]
    rcases u with ⟨e, u⟩ | ⟨o, e, ho, u⟩
    · rw [if_neg (by rw [e]; decide), if_pos (by decide)]
      exact setp (fun j hj => by rw [u] at hj; cases hj)
    · have hon : o < n := hls o (List.mem_of_mem_take ho)
      rw [if_pos (by rw [e]; exact (i32_le (a := 0) ⟨by decide, by decide⟩ ⟨by omega, by omega⟩).mpr (by omega))]
      obtain ⟨z, E, A, C⟩ := c_orderAt kk q w hn hM hp hon (bL p hp) (bL o hon) hX
      obtain ⟨y, E2, A2, C2⟩ := c_steep kk q w hn hM hp hon (bL p hp) (bL o hon)
      rw [← e] at E E2
      rw [E, bd_some, E2, bd_some, if_pos q.1]
      have keep : ¬ (vl (L p) x < vl (L o) x) → (vl (L p) x = vl (L o) x → ¬ sl (L p) < sl (L o)) → ∃ b', fX1_lowestLive_l4 m r (i32 x) (i32 b) (i32 ((k + 1 : Nat) : Int)) h = some (i32 b', h) ∧ LwI L ls x b' := by
        intro k1 k2
        refine ih (k + 1) m b (by omega) (by omega) (Or.inr ⟨o, e, (take_memN hg o).mpr (Or.inl ho), fun j hj => ?_⟩)
        rcases (take_memN hg j).mp hj with t | t
        · exact u j t
        · rw [t]
          by_cases t2 : vl (L p) x = vl (L o) x
          · right; exact ⟨t2.symm, by have := k2 t2; grind⟩
          · left; grind
      by_cases c1 : vl (L p) x < vl (L o) x
      · rw [if_pos ((si_lt _).mpr (A.mpr c1))]
        rw [nx]; exact setp (fun j hj => by left; rcases u j hj with t | t <;> grind)
      · rw [if_neg (fun t => c1 (A.mp ((si_lt _).mp t)))]
        by_cases c2 : vl (L p) x = vl (L o) x
        · have z0 : sg z = 0 := by
            have h1 : ¬ sg z < 0 := fun t => c1 (A.mp t)
            have h2 : ¬ 0 < sg z := fun t => by have := C.mp t; grind
            omega
          rw [if_pos ((si_eq _).mpr z0)]
          by_cases c3 : sl (L p) < sl (L o)
          · rw [if_neg (fun t => by have := A2.mpr c3; have := (si_ge _).mp t; omega)]
            rw [nx]; exact setp (fun j hj => by rcases u j hj with t | t; left; grind; right; exact ⟨by grind, by grind⟩)
          · rw [if_pos ((si_ge _).mpr (by have : ¬ sg y < 0 := fun t => c3 (A2.mp t); omega))]
            rw [nx]; exact keep c1 (fun _ => c3)
        · have z0 : ¬ sg z = 0 := by
            intro t
            have h2 : ¬ vl (L o) x < vl (L p) x := fun t2 => by have := C.mpr t2; omega
            grind
          rw [if_neg (fun t => z0 ((si_eq _).mp t))]
          rw [nx]; exact keep c1 (fun t => absurd t c2)
theorem c_lowestLive (kk : KonC MA MB MC X) (q : Lo h r M) (w : CLn h r L n) (hn : n ≤ M) (hM : M ≤ 60000) (bL : ∀ k, k < n → LBd MA MB MC (L k)) (I : LsI h r ls) (hl : ls.length ≤ n) (hls : ∀ o ∈ ls, o < n) (hx : ls ≠ [] → -X ≤ x ∧ x ≤ X) : ∃ b', fX1_lowestLive r (i32 x) h = some (i32 b', h) ∧ LwI L ls x b' := by
  unfold fX1_lowestLive
  rw [lt_def, lt_def, m1_32, show (0 : Int32) = i32 ((0 : Nat) : Int) from rfl]
  exact c_low4 kk q w hn hM bL I hl hls hx ls.length 0 FU (-1) (by omega) (by rw [FU_eq]; omega) (Or.inl ⟨rfl, rfl⟩)
end CW
