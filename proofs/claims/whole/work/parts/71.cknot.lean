/-! THE CLASS' addKnot -/
def AX (h : xH) (s r _k : Nat) : Prop := r = s ∨ ∃ j, 1 ≤ j ∧ j ≤ 5 ∧ r = hR h s j
theorem c_b113 {h : xH} {s n cap : Nat} (S : Sh h s cap) (hn : n < cap) (hcap : cap ≤ 60000) (c : hI h s 0 = i32 (n : Int)) (v : Int32) : fX4_addKnot_b113 v (i32 (n : Int)) (hR h s 5) s h = some ((), sI (sI h (hR h s 5) n v) s 0 (i32 ((n : Int) + 1))) := by
  unfold fX4_addKnot_b113
  have e1 := nat_i n (by omega)
  have x1 : ix (i32 (n : Int)) cap := ix_i (by omega) (by omega) (by omega)
  have ne : ¬ (s = hR h s 5 ∧ 0 = n) := fun z => by have := S.2.2.1.1; rw [← z.1, S.1] at this; omega
  rw [if_pos S.2.2.1.1, S.2.2.1.2, if_pos x1, lt_def, kc_sI, if_pos S.1, lt_def, e1, hI_sI, if_neg ne, c, one32, i32_add]
theorem Sh.fr {A : Nat → Nat → Prop} {h h' : xH} {s cap : Nat} (S : Sh h s cap) (f : Fr A h h') : Sh h' s cap := by
  have e : ∀ k, xkd h' k = xkd h k := fun k => by unfold xkd; rw [f.1]
  have e1 : ∀ k, kc h' k = kc h k := fun k => by unfold kc; rw [e]
  have e2 : ∀ k, kl h' k = kl h k := fun k => by unfold kl; rw [e]
  have e3 : ∀ a b, hR h' a b = hR h a b := fun a b => by unfold hR; rw [f.2.1]
  unfold Sh
  simp only [e1, e2, e3]
  exact S
theorem gcd_nz {a b : Int} (ha : Q a) (hb : Q b) (hp : 0 < b) : B64 (Int.gcd a b : Int) ∧ ¬ i64 (Int.gcd a b : Int) = 0 := by
  have hg : 0 < Int.gcd a b := Int.gcd_pos_of_ne_zero_right _ (by omega)
  have hg2 : Int.gcd a b ≤ b.natAbs := Nat.le_of_dvd (by omega) (Int.gcd_dvd_natAbs_right _ _)
  have B : B64 (Int.gcd a b : Int) := ⟨by omega, by have := hb.1; have := hb.2; omega⟩
  exact ⟨B, fun z => by have := (i64_eq (b := 0) B ⟨by decide, by decide⟩).mp z; omega⟩
theorem low_pos {a b : Int} (hb : 0 < b) : ((a : Rat) / (b : Rat)).num = a.tdiv (Int.gcd a b) ∧ ((((a : Rat) / (b : Rat)).den : Nat) : Int) = b.tdiv (Int.gcd a b) := by
  have t := low_terms (a := a) (b := b) (by omega)
  rw [if_neg (show ¬ b < 0 by omega), Int.mul_one] at t
  exact t
