/-! FRACTIONS TOLD: the class' Ratio, the reference's part -/
def Rt (h : xH) (r : Nat) (v : Option Rat) : Prop := hI h r 0 = bz v.isSome ∧ ∀ x, v = some x → hJ h r 1 = i64 x.num ∧ hJ h r 2 = i64 x.den
def AR (r r' k : Nat) : Prop := r' = r ∧ k ≤ 2
theorem Fr.ekc {A : Nat → Nat → Prop} {h h' : xH} (f : Fr A h h') (r : Nat) : kc h' r = kc h r := by unfold kc xkd; rw [f.1]
theorem Fr.ehR {A : Nat → Nat → Prop} {h h' : xH} (f : Fr A h h') (r k : Nat) : hR h' r k = hR h r k := by unfold hR; rw [f.2.1]
theorem Fr.ekl {A : Nat → Nat → Prop} {h h' : xH} (f : Fr A h h') (r : Nat) : kl h' r = kl h r := by unfold kl xkd; rw [f.1]
theorem Fr.co {A : Nat → Nat → Prop} {h h' : xH} (f : Fr A h h') (q : Co h) : Co h' := by
  refine ⟨fun r x e => ?_, fun r k x e => ?_⟩
  · have := q.1 r x e; unfold xkd at *; rw [f.1]; exact this
  · rw [f.ehR]; exact q.2 r k x e
section RA
variable {h : xH} {r : Nat}
theorem c_as33 {n d D : Int} (hn : B64 n) (hd : B64 d) (hD : B64 D) (D0 : D ≠ 0) (k : kc h r = 2) : fX2_assign_b33 (i64 D) r (i64 n) (i64 d) h = some ((), sJ (sJ (sI h r 0 1) r 1 (i64 (n.tdiv D))) r 2 (i64 (d.tdiv D))) := by
  have z0 : B64 0 := ⟨by decide, by decide⟩
  unfold fX2_assign_b33 fX2_assign_b56 fX2_assign_b75
  have c1 : ¬ lg_cmp (i64 D) (i64 0) = 0 := fun z => D0 ((lz_eq hD z0).mp z)
  have c2 : ¬ i64 D = i64 0 := fun z => D0 ((i64_eq hD z0).mp z)
  simp only [z64, k, kc_sI, kc_sJ, lt_def, if_neg c1, if_pos c2, reduceIte, i64_div hn hD, i64_div hd hD]
theorem c_assign {n d : Int} (hn : Q n) (hd : Q d) (d0 : d ≠ 0) (k : kc h r = 2) : ∃ h', fX2_assign r (i64 n) (i64 d) h = some ((), h') ∧ Rt h' r (some ((n : Rat) / (d : Rat))) ∧ Fr (AR r) h h' := by
  have z0 : B64 0 := ⟨by decide, by decide⟩
  have lt := low_terms (a := n) (b := d) d0
  have g0 : 0 < Int.gcd n d := Int.gcd_pos_of_ne_zero_right n d0
  have gb : B64 (Int.gcd n d : Int) ∧ B64 (-(Int.gcd n d : Int)) := by
    have : Int.gcd n d ≤ d.natAbs := Nat.le_of_dvd (by omega) (Int.gcd_dvd_natAbs_right n d)
    have := hd.b
    exact ⟨⟨by omega, by have := this.2; have := this; have := hd.2; have := hd.1; omega⟩, ⟨by have := hd.2; have := hd.1; omega, by omega⟩⟩
  have fin : ∀ D : Int, B64 D → D ≠ 0 → D = (Int.gcd n d : Int) * (if d < 0 then -1 else 1) → ∃ h', fX2_assign_b33 (i64 D) r (i64 n) (i64 d) h = some ((), h') ∧ Rt h' r (some ((n : Rat) / (d : Rat))) ∧ Fr (AR r) h h' := by
    intro D bD D0 eD
    refine ⟨_, c_as33 hn.b hd.b bD D0 k, ⟨?_, fun x e => ?_⟩, ?_⟩
    · simp [hI_sJ, hI_sI, bz]
    · rw [← Option.some.inj e, lt.1, lt.2, ← eD]
      simp [hJ_sJ]
    · exact ((Fr.I _ ⟨rfl, by omega⟩).tr (Fr.J _ ⟨rfl, by omega⟩)).tr (Fr.J _ ⟨rfl, by omega⟩)
  unfold fX2_assign
  rw [z64, if_neg (fun z => d0 ((lz_eq hd.b z0).mp z)), c_cd hn hd, bd_some]
  by_cases c : 0 ≤ d
  · rw [if_pos ((lz_ge hd.b z0).mpr c)]
    exact fin _ gb.1 (by omega) (by rw [if_neg (by omega)]; omega)
  · rw [if_neg (fun z => c ((lz_ge hd.b z0).mp z)), i64_neg]
    exact fin _ gb.2 (by omega) (by rw [if_pos (by omega)]; omega)
theorem c_assign0 {n : Int} (k : kc h r = 2) : ∃ h', fX2_assign r (i64 n) (i64 0) h = some ((), h') ∧ Rt h' r none ∧ Fr (AR r) h h' := by
  refine ⟨sI h r 0 0, ?_, ⟨by simp [hI_sI, bz], fun x e => by cases e⟩, Fr.I _ ⟨rfl, by omega⟩⟩
  unfold fX2_assign
  rw [z64, if_pos ((lz_eq ⟨by decide, by decide⟩ ⟨by decide, by decide⟩).mpr rfl), if_pos k, lt_def]
theorem c_forget (k : kc h r = 2) : ∃ h', fX2_forget r h = some ((), h') ∧ Rt h' r none ∧ Fr (AR r) h h' := by
  refine ⟨sI h r 0 0, ?_, ⟨by simp [hI_sI, bz], fun x e => by cases e⟩, Fr.I _ ⟨rfl, by omega⟩⟩
  unfold fX2_forget
  rw [if_pos k, lt_def]
/-- the upper (what 0) or lower number that is told of a fraction -/
def tel (v : Option Rat) (w : Int) : Int := match v with
  | none => -9223372036854775808
  | some x => if w = 0 then x.num else x.den
theorem c_tellPlain {v : Option Rat} (R : Rt h r v) (k : kc h r = 2) {w : Int} (hw : B32 w) : fX6_tellPlain r (i32 w) h = some (i64 (tel v w), h) := by
  unfold fX6_tellPlain
  rw [if_pos k, R.1]
  cases v with
  | none => rw [if_pos (by rfl)]; rfl
  | some x =>
    have v := R.2 x rfl
    rw [if_neg (show ¬ bz (some x).isSome = 0 from bzt0), z32, v.1, v.2]
    unfold tel
    by_cases c : w = 0
    · rw [if_pos (by rw [c])]; simp [c]
    · rw [if_neg (fun z => c ((i32_eq hw ⟨by decide, by decide⟩).mp z))]; simp [c]
def s60 (v : Option Rat) : Option Rat := v.map (fun x => x / 60)
theorem c_tellNumber {v : Option Rat} (R : Rt h r v) (k : kc h r = 2) (hv : ∀ x, v = some x → Q x.num ∧ Q ((x.den : Int) * 60)) {w : Int} (hw : B32 w) : ∃ h', fX6_tellNumber r (i32 w) h = some (i64 (tel (s60 v) w), h') ∧ Fr (AR r) h h' := by
  unfold fX6_tellNumber
  rw [if_pos k, R.1]
  cases v with
  | none => rw [if_pos (by rfl)]; exact ⟨h, rfl, Fr.rf h⟩
  | some x =>
    have b := hv x rfl
    have e := R.2 x rfl
    rw [if_neg (show ¬ bz (some x).isSome = 0 from bzt0), e.1, e.2, show (60 : Int64) = i64 60 from rfl, i64_mul]
    obtain ⟨h1, E1, R1, F1⟩ := c_assign (h := h) (r := r) b.1 b.2 (by have := x.den_nz; omega) k
    have e2 : ((x.num : Rat) / (((x.den : Int) * 60 : Int) : Rat)) = x / 60 := by
      rw [Rat.intCast_mul]
      have hx : x = (x.num : Rat) / ((x.den : Int) : Rat) := by rw [← Rat.divInt_eq_div]; exact (Rat.num_divInt_den x).symm
      have hd : ((x.den : Int) : Rat) ≠ 0 := by
        intro z
        have : (x.den : Int) = 0 := by exact_mod_cast z
        have := x.den_nz
        omega
      have h60 : ((60 : Int) : Rat) = 60 := rfl
      rw [h60]
      generalize hdd : ((x.den : Int) : Rat) = dd at *
      generalize hnn : (x.num : Rat) = nn at *
      rw [hx]
      grind
    rw [e2] at R1
    refine ⟨h1, ?_, F1⟩
    rw [E1, bd_some, c_tellPlain R1 (by rw [F1.ekc]; exact k) hw, bd_some]
    rfl
end RA
def prt (q : Rat) (w : Int) : Int := if w % 2 = 0 then q.num else q.den
theorem m_part {n d : Int} (hn : Q n) (hd : Q d) (d0 : 0 < d) {w : Int} (hw : 0 ≤ w ∧ w ≤ 3) (h : xH) : fX7_part (i64 n) (i64 d) (i32 w) h = some (i64 (prt ((n : Rat) / (d : Rat)) w), h) := by
  have z0 : B64 0 := ⟨by decide, by decide⟩
  have lt := low_terms (a := n) (b := d) (by omega)
  rw [if_neg (by omega), Int.mul_one] at lt
  have g0 : 0 < Int.gcd n d := Int.gcd_pos_of_ne_zero_right n (by omega)
  have gb : B64 (Int.gcd n d : Int) := by
    have : Int.gcd n d ≤ d.natAbs := Nat.le_of_dvd (by omega) (Int.gcd_dvd_natAbs_right n d)
    exact ⟨by omega, by have := hd.2; have := hd.1; omega⟩
  have c2 : ¬ i64 (Int.gcd n d : Int) = i64 0 := fun z => by have := (i64_eq gb z0).mp z; omega
  have key : ∀ t : Int, B64 t → fX7_part_b12 (i64 t) (i64 n) (i64 d) h = some (i64 (t.tdiv (Int.gcd n d : Int)), h) := by
    intro t ht
    unfold fX7_part_b12
    rw [m_common hn hd, bd_some, z64, if_pos c2, i64_div ht gb]
  unfold fX7_part prt
  rw [lt.1, lt.2, if_pos (by decide)]
  rcases (show w = 0 ∨ w = 1 ∨ w = 2 ∨ w = 3 by omega) with e | e | e | e <;> rw [e]
  · rw [if_pos (by decide), key n hn.b]; rfl
  · rw [if_neg (by decide), key d hd.b]; rfl
  · rw [if_pos (by decide), key n hn.b]; rfl
  · rw [if_neg (by decide), key d hd.b]; rfl
