/-! READ: the reference reads fractions and knots -/
def Tld (h : xH) (s : TS) : Prop := hI h 220 44 = i32 (tN s : Int) ∧ ∀ k, k < tN s → hI h 247 k = i32 (tX s k) ∧ hI h 248 k = i32 (tY s k) ∧ hI h 249 k = bz (tG s k)
def RSU (r k : Nat) : Prop := (r = 220 ∧ (k = 38 ∨ k = 40 ∨ k = 44)) ∨ (247 ≤ r ∧ r ≤ 249)
def RST (r k : Nat) : Prop := (r = 220 ∧ ((37 ≤ k ∧ k ≤ 40) ∨ k = 44)) ∨ (247 ≤ r ∧ r ≤ 249)
section MF
variable {h : xH} {n : Nat} {T : Tap} {p : Nat} {s : TS}
theorem m_b120 {a b : Nat} {less : Bool} (ha : a ≤ 9999) (hb : 1 ≤ b ∧ b ≤ 60) : fX7_fraction_b120 (bz less) (i32 (b : Int)) (i32 ((60 * a : Nat) : Int)) h = some (i32 (if less = true then -((60 * a / b : Nat) : Int) else ((60 * a / b : Nat) : Int)), h) := by
  have b0 : ¬ i32 (b : Int) = 0 := fun z => by have := (i32_eq (b := 0) ⟨by omega, by omega⟩ ⟨by decide, by decide⟩).mp z; omega
  unfold fX7_fraction_b120
  cases less with
  | false => rw [if_pos bz_f, if_pos b0, div60 ha hb, if_neg (by decide)]
  | true => rw [if_neg bzt0, if_pos b0, div60 ha hb, i32_neg, if_pos rfl]
theorem m_b82 {a b s0 : Nat} {less : Bool} (M : Mo h) (g : hI h 220 39 = 1) (h40 : hI h 220 40 = i32 (s0 : Int)) (ha : a ≤ 9999) (hb : 1 ≤ b ∧ b ≤ 60) : (¬ (60 * a) % b = 0 ∨ 5940 < 60 * a / b → ∃ w, fX7_fraction_b82 220 (bz less) (i32 (a : Int)) (i32 (b : Int)) h = some (w, sI (sI h 220 37 (i32 (s0 : Int))) 220 39 0)) ∧ (¬ (¬ (60 * a) % b = 0 ∨ 5940 < 60 * a / b) → fX7_fraction_b82 220 (bz less) (i32 (a : Int)) (i32 (b : Int)) h = some (i32 (if less = true then -((60 * a / b : Nat) : Int) else ((60 * a / b : Nat) : Int)), h)) := by
  have b0 : ¬ i32 (b : Int) = 0 := fun z => by have := (i32_eq (b := 0) ⟨by omega, by omega⟩ ⟨by decide, by decide⟩).mp z; omega
  have hD : 60 * a / b ≤ 600000 := Nat.le_trans (Nat.div_le_self _ _) (by omega)
  have hR : 60 * a % b < 60 := Nat.lt_of_lt_of_le (Nat.mod_lt _ (by omega)) hb.2
  have m0 : (i32 (((60 * a) % b : Nat) : Int) = 0) ↔ (60 * a) % b = 0 := by
    rw [show (0 : Int32) = i32 0 from rfl, i32_eq ⟨by omega, by omega⟩ ⟨by decide, by decide⟩]; omega
  have d0 : (i32 ((60 * a / b : Nat) : Int) ≤ (5940 : Int32)) ↔ 60 * a / b ≤ 5940 := by
    rw [show (5940 : Int32) = i32 5940 from rfl]
    generalize 60 * a / b = D at hD ⊢
    rw [i32_le ⟨by omega, by omega⟩ ⟨by decide, by decide⟩]; omega
  have e60 : (60 : Int32) * i32 (a : Int) = i32 ((60 * a : Nat) : Int) := by
    rw [show (60 : Int32) = i32 60 from rfl, i32_mul, show 60 * (a : Int) = ((60 * a : Nat) : Int) by omega]
  have bad : fX7_fraction_b112 220 (bz less) (i32 (b : Int)) (i32 ((60 * a : Nat) : Int)) h = some (i32 (if less = true then -((60 * a / b : Nat) : Int) else ((60 * a / b : Nat) : Int)), sI (sI h 220 37 (i32 (s0 : Int))) 220 39 0) := by
    unfold fX7_fraction_b112
    rw [if_pos M.k220, h40, m_wrong M g, bd_some, m_b120 ha hb]
  refine ⟨fun z => ?_, fun z => ?_⟩
  · refine ⟨i32 (if less = true then -((60 * a / b : Nat) : Int) else ((60 * a / b : Nat) : Int)), ?_⟩
    unfold fX7_fraction_b82
    rw [lt_def, e60, if_pos M.k220, if_neg (by rw [g]; decide), if_pos b0, mod60 ha hb]
    by_cases c : (60 * a) % b = 0
    · rw [if_pos (m0.mpr c), if_pos b0, div60 ha hb, if_neg (fun w => by have := d0.mp w; rcases z with z | z; exact z c; omega), bad]
    · rw [if_neg (fun w => c (m0.mp w)), bad]
  · have c1 : (60 * a) % b = 0 := Decidable.byContradiction (fun w => z (Or.inl w))
    have c2 : 60 * a / b ≤ 5940 := Decidable.byContradiction (fun w => z (Or.inr (Nat.lt_of_not_le w)))
    unfold fX7_fraction_b82
    rw [lt_def, e60, if_pos M.k220, if_neg (by rw [g]; decide), if_pos b0, mod60 ha hb, if_pos (m0.mpr c1), if_pos b0, div60 ha hb, if_pos (d0.mpr c2), m_b120 ha hb]
theorem m_b82z {less w b : Int32} (M : Mo h) (g : hI h 220 39 = 0) (b0 : ¬ b = 0) : ∃ v, fX7_fraction_b82 220 less w b h = some (v, h) := by
  unfold fX7_fraction_b82 fX7_fraction_b120
  rw [lt_def, if_pos M.k220, if_pos g]
  by_cases c : less = 0
  · rw [if_pos c, if_pos b0]; exact ⟨_, rfl⟩
  · rw [if_neg c, if_pos b0]; exact ⟨_, rfl⟩
theorem m_frac (t : Rp h n T p) (g : hI h 220 39 = 1) : (∀ f, fraP T n p = .inl f → ∃ w h', fX7_fraction 220 h = some (w, h') ∧ hI h' 220 37 = i32 (f : Int) ∧ hI h' 220 39 = 0 ∧ Fr RSF h h') ∧ (∀ v e, fraP T n p = .inr (v, e) → ∃ h', fX7_fraction 220 h = some (i32 v, h') ∧ hI h' 220 40 = i32 (sk T n p : Int) ∧ Rp h' n T e ∧ Fr RS40 h h') := by
  have M := t.1
  obtain ⟨h1, E1, t1, F1⟩ := m_sign t
  have q3 : hI h1 220 38 = i32 (sk T n p : Int) := t1.2.2.2.1
  have F2 : Fr (fun r k => r = 220 ∧ k = 40) h1 (sI h1 220 40 (i32 (sk T n p : Int))) := Fr.I _ ⟨rfl, rfl⟩
  have t2 : Rp (sI h1 220 40 (i32 (sk T n p : Int))) n T (sk T n p) := t1.sm F2 ⟨by omega, by omega, fun k => by omega⟩
  have k3 : ∃ h3, fX7_fraction 220 h = fX7_fraction_b37 220 (bz (isM T n (sk T n p))) h3 ∧ Rp h3 n T (if isM T n (sk T n p) = true then sk T n p + 1 else sk T n p) ∧ Fr RS8 (sI h1 220 40 (i32 (sk T n p : Int))) h3 := by
    by_cases c : sk T n p < n ∧ T (sk T n p) = 45
    · have em : isM T n (sk T n p) = true := decide_eq_true c
      obtain ⟨t3, F3⟩ := t2.adv c.1
      rw [em, if_pos rfl]
      refine ⟨_, ?_, t3, F3⟩
      unfold fX7_fraction fX7_fraction_b14
      rw [if_pos M.k220, E1, bd_some, if_pos ((sgn_is (by decide)).mpr c), if_pos t1.1.k220, lt_def, q3, if_neg (by decide), lt_def, t2.2.2.2.1, one32, i32_add, kp1]
      rfl
    · have em : isM T n (sk T n p) = false := decide_eq_false c
      rw [em, if_neg (by decide)]
      refine ⟨_, ?_, t2, Fr.rf _⟩
      unfold fX7_fraction fX7_fraction_b14
      rw [if_pos M.k220, E1, bd_some, if_neg (fun z => c ((sgn_is (by decide)).mp z)), if_pos t1.1.k220, lt_def, q3, if_pos rfl]
      rfl
  obtain ⟨h3, E3, t3, F3⟩ := k3
  have F13 : Fr RS40 h h3 := ((F1.mono (fun r k z => by unfold RS8 at z; unfold RS40; omega)).tr (F2.mono (fun r k z => by unfold RS40; omega))).tr (F3.mono (fun r k z => by unfold RS8 at z; unfold RS40; omega))
  have i40 : hI h3 220 40 = i32 (sk T n p : Int) := by rw [(F3.2.2 220 40 (by unfold RS8; omega)).1, hI_sI, if_pos ⟨rfl, rfl⟩]
  have sf : ∀ {x y : xH}, Fr RS40 x y → Fr RSF x y := fun f => f.mono (fun r k z => by unfold RS40 at z; unfold RSF; omega)
  have s8 : ∀ {x y : xH}, Fr RS8 x y → Fr RS40 x y := fun f => f.mono (fun r k z => by unfold RS8 at z; unfold RS40; omega)
  have gg : ∀ {y : xH}, Fr RS40 h y → hI y 220 39 = 1 := fun f => by rw [(f.2.2 220 39 (by unfold RS40; omega)).1]; exact g
  have nm := m_num (least := 0) (most := 9999) t3 (gg F13) (by decide) (by decide)
  cases e1 : numP T n 0 9999 (if isM T n (sk T n p) = true then sk T n p + 1 else sk T n p) with
  | inl f =>
    have ef : fraP T n p = .inl f := by unfold fraP; rw [e1]; rfl
    obtain ⟨h4, E4, g4, g4b, F4⟩ := nm.1 f e1
    have E4' : fX7_number 220 0 9999 h3 = some (1, h4) := E4
    obtain ⟨w, E5⟩ := m_b82z (less := bz (isM T n (sk T n p))) (w := 1) (b := 1) (F4.mo t3.1) g4b (by decide)
    refine ⟨fun f' hf => ⟨w, h4, ?_, ?_, g4b, (sf F13).tr F4⟩, fun v e hv => by rw [ef] at hv; cases hv⟩
    · rw [E3]
      unfold fX7_fraction_b37
      rw [if_pos t3.1.k220, E4', bd_some, lt_def, if_pos g4b, E5]
    · rw [ef] at hf
      rw [g4, Sum.inl.inj hf]
  | inr r =>
    obtain ⟨a, p2⟩ := r
    obtain ⟨h4, E4, t4, F4⟩ := nm.2 a p2 e1
    have E4' : fX7_number 220 0 9999 h3 = some (i32 (a : Int), h4) := E4
    have b1 := num_b t3.2.2.2.2.1 e1
    have F14 := F13.tr (s8 F4)
    obtain ⟨h5, E5, t5, F5⟩ := m_sign t4
    have F15 := F14.tr (s8 F5)
    have j5 : hI h5 220 40 = i32 (sk T n p : Int) := by rw [(F5.2.2 220 40 (by unfold RS8; omega)).1, (F4.2.2 220 40 (by unfold RS8; omega)).1]; exact i40
    have ef : fraP T n p = fra3 (sk T n p) (isM T n (sk T n p)) a (if sk T n p2 < n ∧ T (sk T n p2) = 47 then numP T n 1 60 (sk T n p2 + 1) else .inr (1, sk T n p2)) := by unfold fraP; rw [e1]; rfl
    have fin : ∀ (hh : xH) (b p3 : Nat), Rp hh n T p3 → hI hh 220 40 = i32 (sk T n p : Int) → 1 ≤ b ∧ b ≤ 60 → Fr RS40 h hh → (∀ f, fra3 (sk T n p) (isM T n (sk T n p)) a (.inr (b, p3)) = .inl f → ∃ w h', fX7_fraction_b82 220 (bz (isM T n (sk T n p))) (i32 (a : Int)) (i32 (b : Int)) hh = some (w, h') ∧ hI h' 220 37 = i32 (f : Int) ∧ hI h' 220 39 = 0 ∧ Fr RSF h h') ∧ (∀ v e, fra3 (sk T n p) (isM T n (sk T n p)) a (.inr (b, p3)) = .inr (v, e) → ∃ h', fX7_fraction_b82 220 (bz (isM T n (sk T n p))) (i32 (a : Int)) (i32 (b : Int)) hh = some (i32 v, h') ∧ hI h' 220 40 = i32 (sk T n p : Int) ∧ Rp h' n T e ∧ Fr RS40 h h') := by
      intro hh b p3 tt h40 hb FF
      have c7 := m_b82 (a := a) (b := b) (less := isM T n (sk T n p)) tt.1 (gg FF) h40 (by omega) hb
      refine ⟨fun f hf => ?_, fun v e hv => ?_⟩
      · unfold fra3 at hf
        dsimp only at hf
        split at hf
        · rename_i c
          obtain ⟨w, E⟩ := c7.1 c
          exact ⟨w, _, E, by rw [hI_sI, if_neg (by omega), hI_sI, if_pos ⟨rfl, rfl⟩, Sum.inl.inj hf], by rw [hI_sI, if_pos ⟨rfl, rfl⟩], (sf FF).tr ((Fr.I _ ⟨rfl, by decide, by decide⟩).tr (Fr.I _ ⟨rfl, by decide, by decide⟩))⟩
        · cases hf
      · unfold fra3 at hv
        dsimp only at hv
        split at hv
        · cases hv
        · rename_i c
          have e3 := Sum.inr.inj hv
          have e4 := congrArg Prod.fst e3
          have e5 := congrArg Prod.snd e3
          dsimp only at e4 e5
          exact ⟨hh, by rw [c7.2 c, e4], h40, by rw [← e5]; exact tt, FF⟩
    have go : ∀ R : Option (Int32 × xH), (if sgT T n (sk T n p2) = (47 : Int32) then (lt (sI h5 220 38 ((hI h5 220 38) + (1 : Int32))) (fun g11 => bd (fX7_number 220 (1 : Int32) (60 : Int32) g11) (fun w16 g14 => fX7_fraction_b82 220 (bz (isM T n (sk T n p))) (i32 (a : Int)) w16 g14))) else (fX7_fraction_b82 220 (bz (isM T n (sk T n p))) (i32 (a : Int)) 1 h5)) = R → fX7_fraction 220 h = R := by
      intro R hR
      rw [E3]
      unfold fX7_fraction_b37
      rw [if_pos t3.1.k220, E4', bd_some, lt_def, if_neg (by rw [gg F14]; decide), E5, bd_some]
      exact hR
    by_cases c2 : sk T n p2 < n ∧ T (sk T n p2) = 47
    · rw [if_pos c2] at ef
      have c2s : sgT T n (sk T n p2) = 47 := (sgn_is (by decide)).mpr c2
      obtain ⟨t6, F6⟩ := t5.adv c2.1
      have F16 := F15.tr (s8 F6)
      have e38 : sI h5 220 38 (hI h5 220 38 + 1) = sI h5 220 38 (i32 ((sk T n p2 + 1 : Nat) : Int)) := by rw [t5.2.2.2.1, one32, i32_add, kp1]
      have nm2 := m_num (least := 1) (most := 60) t6 (gg F16) (by decide) (by decide)
      cases e2 : numP T n 1 60 (sk T n p2 + 1) with
      | inl f =>
        rw [e2] at ef
        obtain ⟨h7, E7, g7, g7b, F7⟩ := nm2.1 f e2
        have E7' : fX7_number 220 1 60 (sI h5 220 38 (i32 ((sk T n p2 + 1 : Nat) : Int))) = some (1, h7) := E7
        obtain ⟨w, E8⟩ := m_b82z (less := bz (isM T n (sk T n p))) (w := i32 (a : Int)) (b := 1) (F7.mo t6.1) g7b (by decide)
        refine ⟨fun f' hf => ⟨w, h7, go _ (by rw [if_pos c2s, lt_def, e38, E7', bd_some, E8]), ?_, g7b, (sf F16).tr F7⟩, fun v e hv => by rw [ef] at hv; cases hv⟩
        rw [ef] at hf
        rw [g7, Sum.inl.inj hf]
      | inr r =>
        obtain ⟨b, p3⟩ := r
        rw [e2] at ef
        obtain ⟨h7, E7, t7, F7⟩ := nm2.2 b p3 e2
        have E7' : fX7_number 220 1 60 (sI h5 220 38 (i32 ((sk T n p2 + 1 : Nat) : Int))) = some (i32 (b : Int), h7) := E7
        have b2 := num_b t6.2.2.2.2.1 e2
        have j7 : hI h7 220 40 = i32 (sk T n p : Int) := by rw [(F7.2.2 220 40 (by unfold RS8; omega)).1, (F6.2.2 220 40 (by unfold RS8; omega)).1]; exact j5
        have FN := fin h7 b p3 t7 j7 ⟨by omega, by omega⟩ (F16.tr (s8 F7))
        refine ⟨fun f hf => ?_, fun v e hv => ?_⟩
        · rw [ef] at hf
          obtain ⟨w, h8, E8, R8⟩ := FN.1 f hf
          exact ⟨w, h8, go _ (by rw [if_pos c2s, lt_def, e38, E7', bd_some, E8]), R8⟩
        · rw [ef] at hv
          obtain ⟨h8, E8, R8⟩ := FN.2 v e hv
          exact ⟨h8, go _ (by rw [if_pos c2s, lt_def, e38, E7', bd_some, E8]), R8⟩
    · rw [if_neg c2] at ef
      have c2s : ¬ sgT T n (sk T n p2) = 47 := fun z => c2 ((sgn_is (by decide)).mp z)
      have FN := fin h5 1 (sk T n p2) t5 j5 (by decide) F15
      refine ⟨fun f hf => ?_, fun v e hv => ?_⟩
      · rw [ef] at hf
        obtain ⟨w, h8, E8, R8⟩ := FN.1 f hf
        exact ⟨w, h8, go _ (by rw [if_neg c2s]; exact E8), R8⟩
      · rw [ef] at hv
        obtain ⟨h8, E8, R8⟩ := FN.2 v e hv
        exact ⟨h8, go _ (by rw [if_neg c2s]; exact E8), R8⟩
theorem Tld.fr {A : Nat → Nat → Prop} {h' : xH} (l : Tld h s) (f : Fr A h h') (hA : ¬ A 220 44 ∧ ∀ r k, 247 ≤ r → r ≤ 249 → ¬ A r k) : Tld h' s := ⟨by rw [(f.2.2 220 44 hA.1).1]; exact l.1, fun k hk => by rw [(f.2.2 247 k (hA.2 _ _ (by decide) (by decide))).1, (f.2.2 248 k (hA.2 _ _ (by decide) (by decide))).1, (f.2.2 249 k (hA.2 _ _ (by decide) (by decide))).1]; exact l.2 k hk⟩
end MF
