/-! THE REFERENCE'S remember, undo, refuse, tell -/
theorem mod8c : ∀ n : Fin 16, i32 ((n : Nat) : Int) - i32 ((n : Nat) : Int) / (8 : Int32) * (8 : Int32) = i32 (((n : Nat) % 8 : Nat) : Int) := by decide
abbrev Sns : Type := List (Int × (Nat → List Kn))
def UnM (h : xH) (sn : Sns) : Prop := ∃ fu : Nat, fu < 8 ∧ hI h 220 18 = i32 (fu : Int) ∧ sn.length ≤ 8 ∧ hI h 220 12 = i32 (sn.length : Int) ∧ ∀ (t : Nat) (u : Int × (Nat → List Kn)), sn[t]? = some u → Snp h 225 226 227 228 ((fu + sn.length - 1 - t) % 8) u.2 ∧ hI h 229 ((fu + sn.length - 1 - t) % 8) = i32 u.1
def LenOk (f : Nat → List Kn) : Prop := (∀ i, i < 6 → (f i).length ≤ 12) ∧ (f 6).length ≤ 1600
theorem CurOk.len {cur : Nat → List Kn} (C : CurOk cur) : LenOk cur := ⟨fun i hi => (C.1 i hi).1.1, C.2.1.1⟩
theorem Snp.fr {A : Nat → Nat → Prop} {h h' : xH} {r1 r2 r3 r4 k : Nat} {f : Nat → List Kn} (S : Snp h r1 r2 r3 r4 k f) (L : LenOk f) (g : Fr A h h') (hA : ∀ c, ALy r1 r2 r3 r4 k r1 c → ¬ A r1 c) (hA2 : ¬ A r2 k) (hA3 : ∀ c, 6400 * k ≤ c → c < 6400 * k + 6400 → ¬ A r3 c) (hA4 : ∀ c, 1600 * k ≤ c → c < 1600 * k + 1600 → ¬ A r4 c) : Snp h' r1 r2 r3 r4 k f := by
  obtain ⟨s1, s2, s3⟩ := S
  refine ⟨fun i hi => ?_, by rw [(g.2.2 r2 k hA2).1]; exact s2, fun n kn e0 => ?_⟩
  · obtain ⟨a, b⟩ := s1 i hi
    have hl := L.1 i hi
    refine ⟨by rw [(g.2.2 r1 _ (hA _ (Or.inl ⟨rfl, by omega, by omega⟩))).1]; exact a, fun m hm => ?_⟩
    rw [(g.2.2 r1 _ (hA _ (Or.inl ⟨rfl, by omega, by omega⟩))).1, (g.2.2 r1 _ (hA _ (Or.inl ⟨rfl, by omega, by omega⟩))).1, (g.2.2 r1 _ (hA _ (Or.inl ⟨rfl, by omega, by omega⟩))).1]
    exact b m hm
  · have hn := (List.getElem?_eq_some_iff.mp e0).1
    have hl := L.2
    rw [(g.2.2 r3 _ (hA3 _ (by omega) (by omega))).2, (g.2.2 r3 _ (hA3 _ (by omega) (by omega))).2, (g.2.2 r3 _ (hA3 _ (by omega) (by omega))).2, (g.2.2 r3 _ (hA3 _ (by omega) (by omega))).2, (g.2.2 r4 _ (hA4 _ (by omega) (by omega))).1]
    exact s3 n kn e0
/-- a change that touches no snapshot -/
theorem UnM.fr {A : Nat → Nat → Prop} {h h' : xH} {sn : Sns} (U : UnM h sn) (L : ∀ u ∈ sn, LenOk u.2) (g : Fr A h h') (hA : ∀ r c, 225 ≤ r → r ≤ 229 → ¬ A r c) (hA2 : ¬ A 220 12 ∧ ¬ A 220 18) : UnM h' sn := by
  obtain ⟨fu, u1, u2, u3, u4, u5⟩ := U
  refine ⟨fu, u1, by rw [(g.2.2 220 18 hA2.2).1]; exact u2, u3, by rw [(g.2.2 220 12 hA2.1).1]; exact u4, fun t u e0 => ?_⟩
  obtain ⟨s1, s2⟩ := u5 t u e0
  exact ⟨s1.fr (L u (List.mem_of_getElem? e0)) g (fun c _ => hA _ _ (by decide) (by decide)) (hA _ _ (by decide) (by decide)) (fun c _ _ => hA _ _ (by decide) (by decide)) (fun c _ _ => hA _ _ (by decide) (by decide)), by rw [(g.2.2 229 _ (hA _ _ (by decide) (by decide))).1]; exact s2⟩
def ARm (r c : Nat) : Prop := (225 ≤ r ∧ r ≤ 229) ∨ (r = 220 ∧ (c = 12 ∨ c = 18))
section RM
variable {h : xH} {cur : Nat → List Kn} {sn : Sns}
theorem MI0.fr2 {h' : xH} {A : Nat → Nat → Prop} (I : MI0 h cur) (f : Fr A h h') (hA : ∀ r c, 222 ≤ r → r ≤ 224 → ¬ A r c) (hA2 : ¬ A 220 4) : MI0 h' cur := by
  refine ⟨f.mo I.1, fun i hi => (I.2.1 i hi).fr f (fun k => hA 222 k (by decide) (by decide)), fun i k e0 => ?_, by rw [(f.2.2 220 4 hA2).1]; exact I.2.2.2⟩
  have := I.2.2.1 i k e0
  rw [(f.2.2 223 _ (hA _ _ (by decide) (by decide))).2, (f.2.2 223 _ (hA _ _ (by decide) (by decide))).2, (f.2.2 223 _ (hA _ _ (by decide) (by decide))).2, (f.2.2 223 _ (hA _ _ (by decide) (by decide))).2, (f.2.2 224 _ (hA _ _ (by decide) (by decide))).1]
  exact this
theorem m_rem45 (J : MI0 h cur) (L : LenOk cur) {k m : Nat} {a : Int} (hk : k < 8) (hm : m < 8) (c12 : hI h 220 12 = i32 (m : Int)) : ∃ h', fX7_remember_b45 220 (i32 a) (i32 (k : Int)) h = some ((), h') ∧ Snp h' 225 226 227 228 k cur ∧ hI h' 229 k = i32 a ∧ hI h' 220 12 = i32 ((m + 1 : Nat) : Int) ∧ Fr (fun r c => ALy 225 226 227 228 k r c ∨ (r = 229 ∧ c = k) ∨ (r = 220 ∧ c = 12)) h h' := by
  have q := J.1
  obtain ⟨h1, E1, S1, F1⟩ := m_lay hk q q.ly1 J L.1 L.2
  have q1 := F1.mo q
  have x1 : ix (i32 (k : Int)) 8 := ix_i (by omega) (by omega) (by decide)
  have n1 : (i32 (k : Int)).toNatClampNeg = k := nat_i k (by omega)
  have F2 : Fr (fun r c => (r = 229 ∧ c = k)) h1 (sI h1 229 k (i32 a)) := Fr.I _ ⟨rfl, rfl⟩
  have F3 : Fr (fun r c => (r = 220 ∧ c = 12)) (sI h1 229 k (i32 a)) (sI (sI h1 229 k (i32 a)) 220 12 (i32 ((m + 1 : Nat) : Int))) := Fr.I _ ⟨rfl, rfl⟩
  have e12 : hI (sI h1 229 k (i32 a)) 220 12 = i32 (m : Int) := by rw [hI_sI, if_neg (by omega), (F1.2.2 220 12 (by unfold ALy; omega)).1]; exact c12
  refine ⟨sI (sI h1 229 k (i32 a)) 220 12 (i32 ((m + 1 : Nat) : Int)), ?_, ?_, ?_, by rw [hI_sI, if_pos ⟨rfl, rfl⟩], ((F1.mono (fun r c z => Or.inl z)).tr (F2.mono (fun r c z => Or.inr (Or.inl z)))).tr (F3.mono (fun r c z => Or.inr (Or.inr z)))⟩
  · unfold fX7_remember_b45
    rw [if_pos q.k220, q.r7, q.r8, q.r9, q.r10, E1, bd_some, q1.r11, if_pos q1.k229, q1.l229, if_pos x1, lt_def]
    simp only [n1]
    rw [e12, lt_def, one32, i32_add, kp1]
  · exact (S1.fr L F2 (fun c _ => by omega) (by omega) (fun c _ _ => by omega) (fun c _ _ => by omega)).fr L F3 (fun c _ => by omega) (by omega) (fun c _ _ => by omega) (fun c _ _ => by omega)
  · rw [hI_sI, if_neg (by omega), hI_sI, if_pos ⟨rfl, rfl⟩]
theorem m_remember (J : MI0 h cur) (L : LenOk cur) (Ls : ∀ u ∈ sn, LenOk u.2) (U : UnM h sn) (a : Int) : ∃ h', fX7_remember 220 (i32 a) h = some ((), h') ∧ UnM h' ((a, cur) :: sn.take 7) ∧ Fr ARm h h' := by
  obtain ⟨fu, u1, u2, u3, u4, u5⟩ := U
  have q := J.1
  have hm := mod8c ⟨fu + sn.length, by omega⟩
  have hm : i32 ((fu + sn.length : Nat) : Int) - i32 ((fu + sn.length : Nat) : Int) / (8 : Int32) * (8 : Int32) = i32 (((fu + sn.length) % 8 : Nat) : Int) := hm
  have ea : i32 (fu : Int) + i32 (sn.length : Int) = i32 ((fu + sn.length : Nat) : Int) := by rw [i32_add]; rfl
  unfold fX7_remember
  rw [if_pos q.k220, if_pos (by decide), u2, u4, ea, hm, lt_def]
  by_cases c8 : sn.length = 8
  · rw [if_pos (by rw [c8]; rfl), if_pos (by decide), lt_def, lt_def, mod8 u1]
    have ex : ∃ g, g = sI (sI h 220 18 (i32 (((fu + 1) % 8 : Nat) : Int))) 220 12 (i32 ((7 : Nat) : Int)) := ⟨_, rfl⟩
    obtain ⟨g, eg⟩ := ex
    have F0 : Fr (fun r c => r = 220 ∧ (c = 12 ∨ c = 18)) h g := by rw [eg]; exact (Fr.I _ ⟨rfl, Or.inr rfl⟩).tr (Fr.I _ ⟨rfl, Or.inl rfl⟩)
    have g12 : hI g 220 12 = i32 ((7 : Nat) : Int) := by rw [eg, hI_sI, if_pos ⟨rfl, rfl⟩]
    have g18 : hI g 220 18 = i32 (((fu + 1) % 8 : Nat) : Int) := by rw [eg, hI_sI, if_neg (by omega), hI_sI, if_pos ⟨rfl, rfl⟩]
    have eg2 : sI (sI h 220 18 (i32 (((fu + 1) % 8 : Nat) : Int))) 220 12 (hI (sI h 220 18 (i32 (((fu + 1) % 8 : Nat) : Int))) 220 12 - 1) = g := by
      rw [hI_sI, if_neg (by omega), u4, c8, eg]; rfl
    rw [eg2]
    obtain ⟨h', E1, S1, a1, n1, F1⟩ := m_rem45 (J.fr2 F0 (fun r c _ _ => by omega) (by omega)) L (k := (fu + sn.length) % 8) (m := 7) (a := a) (by omega) (by decide) g12
    refine ⟨h', E1, ⟨(fu + 1) % 8, by omega, ?_, ?_, ?_, fun t u e0 => ?_⟩, (F0.mono (B := ARm) (fun r c z => Or.inr z)).tr (F1.mono (B := ARm) (fun r c z => by unfold ALy at z; unfold ARm; omega))⟩
    · rw [(F1.2.2 220 18 (by unfold ALy; omega)).1]; exact g18
    · rw [List.length_cons, List.length_take]; omega
    · rw [n1, List.length_cons, List.length_take, c8]; rfl
    · have ll : ((a, cur) :: sn.take 7).length = 8 := by rw [List.length_cons, List.length_take, c8]; rfl
      rw [ll]
      cases t with
      | zero =>
        have eu : (a, cur) = u := by simpa using e0
        rw [← eu, show ((fu + 1) % 8 + 8 - 1 - 0) % 8 = (fu + sn.length) % 8 by omega]
        exact ⟨S1, a1⟩
      | succ t =>
        have e1 : (sn.take 7)[t]? = some u := by simpa using e0
        have ht : t < 7 := by
          have := (List.getElem?_eq_some_iff.mp e1).1
          rw [List.length_take] at this; omega
        have e2 : sn[t]? = some u := by rw [List.getElem?_take] at e1; rw [if_pos ht] at e1; exact e1
        obtain ⟨v1, v2⟩ := u5 t u e2
        rw [show ((fu + 1) % 8 + 8 - 1 - (t + 1)) % 8 = (fu + sn.length - 1 - t) % 8 by omega]
        have np : (fu + sn.length - 1 - t) % 8 ≠ (fu + sn.length) % 8 := by omega
        have Lu := Ls u (List.mem_of_getElem? e2)
        refine ⟨(v1.fr Lu F0 (fun c _ => by omega) (by omega) (fun c _ _ => by omega) (fun c _ _ => by omega)).fr Lu F1 (fun c z => by unfold ALy at *; omega) (by unfold ALy; omega) (fun c _ _ => by unfold ALy; omega) (fun c _ _ => by unfold ALy; omega), ?_⟩
        rw [(F1.2.2 229 _ (by unfold ALy; omega)).1, (F0.2.2 229 _ (by omega)).1]
        exact v2
  · rw [if_neg (fun z => c8 (by have := (i32_eq (a := (sn.length : Int)) (b := 8) ⟨by omega, by omega⟩ ⟨by decide, by decide⟩).mp z; omega))]
    obtain ⟨h', E1, S1, a1, n1, F1⟩ := m_rem45 J L (k := (fu + sn.length) % 8) (m := sn.length) (a := a) (by omega) (by omega) u4
    have etk : sn.take 7 = sn := List.take_of_length_le (by omega)
    refine ⟨h', E1, ⟨fu, u1, ?_, ?_, ?_, fun t u e0 => ?_⟩, F1.mono (fun r c z => by unfold ALy at z; unfold ARm; omega)⟩
    · rw [(F1.2.2 220 18 (by unfold ALy; omega)).1]; exact u2
    · rw [etk, List.length_cons]; omega
    · rw [n1, etk, List.length_cons]
    · rw [etk] at e0 ⊢
      rw [List.length_cons]
      cases t with
      | zero =>
        have eu : (a, cur) = u := by simpa using e0
        rw [← eu, show (fu + (sn.length + 1) - 1 - 0) % 8 = (fu + sn.length) % 8 by omega]
        exact ⟨S1, a1⟩
      | succ t =>
        have e2 : sn[t]? = some u := by simpa using e0
        have ht := (List.getElem?_eq_some_iff.mp e2).1
        obtain ⟨v1, v2⟩ := u5 t u e2
        rw [show (fu + (sn.length + 1) - 1 - (t + 1)) % 8 = (fu + sn.length - 1 - t) % 8 by omega]
        have np : (fu + sn.length - 1 - t) % 8 ≠ (fu + sn.length) % 8 := by omega
        have Lu := Ls u (List.mem_of_getElem? e2)
        refine ⟨v1.fr Lu F1 (fun c z => by unfold ALy at *; omega) (by unfold ALy; omega) (fun c _ _ => by unfold ALy; omega) (fun c _ _ => by unfold ALy; omega), ?_⟩
        rw [(F1.2.2 229 _ (by unfold ALy; omega)).1]
        exact v2
theorem m_refuse {a : Int} (q : Mo h) (ha : -6 ≤ a ∧ a ≤ -1) : fX7_refuse 220 (i32 a) h = some (i32 a, sI (sI h 220 1 (i32 a)) 221 (-a).toNat (hI h 221 (-a).toNat + 1)) := by
  have xn : ix (i32 (-a)) 7 := ix_i (by omega) (by omega) (by decide)
  have nn : (i32 (-a)).toNatClampNeg = (-a).toNat := i32_nat (by omega) (by omega)
  have f1 : Fr (fun _ _ => True) h (sI h 220 1 (i32 a)) := Fr.I _ trivial
  have q2 := f1.mo q
  unfold fX7_refuse
  rw [if_pos q.k220, lt_def, q2.r2, if_pos q2.k221, q2.l221, i32_neg, if_pos xn, lt_def]
  simp only [nn]
  rw [hI_sI, if_neg (by omega)]
theorem m_tell (q : Mo h) (v : Int32) : fX7_tell 220 v h = some (v, sI h 220 1 0) := by
  unfold fX7_tell
  rw [if_pos q.k220, lt_def]
theorem m_undo {a : Int} {f : Nat → List Kn} {rest : Sns} (q : Mo h) (Ls : ∀ u ∈ (a, f) :: rest, LenOk u.2) (U : UnM h ((a, f) :: rest)) : ∃ h', fX7_undo 220 h = some (i32 a, h') ∧ UnM h' rest ∧ MI0 h' f ∧ hI h' 220 1 = 0 ∧ Fr (fun r c => ABr r c ∨ (r = 220 ∧ (c = 0 ∨ c = 1 ∨ c = 12))) h h' := by
  obtain ⟨fu, u1, u2, u3, u4, u5⟩ := U
  rw [List.length_cons] at u3 u4
  have hm : i32 ((fu + rest.length : Nat) : Int) - i32 ((fu + rest.length : Nat) : Int) / (8 : Int32) * (8 : Int32) = i32 (((fu + rest.length) % 8 : Nat) : Int) := mod8c ⟨fu + rest.length, by omega⟩
  obtain ⟨s0, s1⟩ := u5 0 (a, f) rfl
  rw [List.length_cons, show (fu + (rest.length + 1) - 1 - 0) % 8 = (fu + rest.length) % 8 by omega] at s0 s1
  have Lf := Ls (a, f) List.mem_cons_self
  have ex : ∃ g, g = sI (sI h 220 0 0) 220 12 (i32 (rest.length : Int)) := ⟨_, rfl⟩
  obtain ⟨g, eg⟩ := ex
  have F0 : Fr (fun r c => r = 220 ∧ (c = 0 ∨ c = 12)) h g := by rw [eg]; exact (Fr.I _ ⟨rfl, Or.inl rfl⟩).tr (Fr.I _ ⟨rfl, Or.inr rfl⟩)
  have qg := F0.mo q
  have g12 : hI g 220 12 = i32 (rest.length : Int) := by rw [eg, hI_sI, if_pos ⟨rfl, rfl⟩]
  have g18 : hI g 220 18 = i32 (fu : Int) := by rw [(F0.2.2 220 18 (by omega)).1]; exact u2
  obtain ⟨h1, E1, J1, F1⟩ := m_bring (k := (fu + rest.length) % 8) (by omega) qg qg.ly1 (s0.fr Lf F0 (fun c _ => by omega) (by omega) (fun c _ _ => by omega) (fun c _ _ => by omega)) Lf.1 Lf.2
  have q1 := F1.mo qg
  have x1 : ix (i32 (((fu + rest.length) % 8 : Nat) : Int)) 8 := ix_i (by omega) (by omega) (by decide)
  have n1 : (i32 (((fu + rest.length) % 8 : Nat) : Int)).toNatClampNeg = (fu + rest.length) % 8 := nat_i _ (by omega)
  have e229 : hI h1 229 ((fu + rest.length) % 8) = i32 a := by rw [(F1.2.2 229 _ (by unfold ABr; omega)).1, (F0.2.2 229 _ (by omega)).1]; exact s1
  have F2 : Fr (fun r c => r = 220 ∧ c = 1) h1 (sI h1 220 1 0) := Fr.I _ ⟨rfl, rfl⟩
  refine ⟨sI h1 220 1 0, ?_, ⟨fu, u1, ?_, by omega, ?_, fun t u e0 => ?_⟩, J1.fr2 F2 (fun r c _ _ => by omega) (by omega), by rw [hI_sI, if_pos ⟨rfl, rfl⟩], ((F0.mono (fun r c z => Or.inr (by omega))).tr (F1.mono (fun r c z => Or.inl z))).tr (F2.mono (fun r c z => Or.inr (by omega)))⟩
  · have ne0 : ¬ hI (sI h 220 0 0) 220 12 = 0 := by
      rw [hI_sI, if_neg (by omega), u4, z32]
      intro z
      have := (i32_eq (a := ((rest.length + 1 : Nat) : Int)) (b := 0) ⟨by omega, by omega⟩ ⟨by decide, by decide⟩).mp z
      omega
    have eg2 : sI (sI h 220 0 0) 220 12 (hI (sI h 220 0 0) 220 12 - 1) = g := by
      rw [hI_sI, if_neg (by omega), u4, eg, one32, i32_sub, show ((rest.length + 1 : Nat) : Int) - 1 = (rest.length : Int) by omega]
    unfold fX7_undo
    rw [if_pos q.k220, lt_def, if_neg ne0, lt_def, eg2, if_pos (by decide), lt_def, g18, g12, i32_add, show (fu : Int) + (rest.length : Int) = ((fu + rest.length : Nat) : Int) from rfl, hm, qg.r7, qg.r8, qg.r9, qg.r10, E1, bd_some, q1.r11, if_pos q1.k229, q1.l229, if_pos x1]
    simp only [n1]
    rw [e229, m_tell q1, bd_some]
  · rw [(F2.2.2 220 18 (by omega)).1, (F1.2.2 220 18 (by unfold ABr; omega)).1]; exact g18
  · rw [(F2.2.2 220 12 (by omega)).1, (F1.2.2 220 12 (by unfold ABr; omega)).1]; exact g12
  · obtain ⟨v1, v2⟩ := u5 (t + 1) u (by rw [List.getElem?_cons_succ]; exact e0)
    have ht := (List.getElem?_eq_some_iff.mp e0).1
    rw [List.length_cons, show (fu + (rest.length + 1) - 1 - (t + 1)) % 8 = (fu + rest.length - 1 - t) % 8 by omega] at v1 v2
    have Lu := Ls u (List.mem_cons_of_mem _ (List.mem_of_getElem? e0))
    refine ⟨((v1.fr Lu F0 (fun c _ => by omega) (by omega) (fun c _ _ => by omega) (fun c _ _ => by omega)).fr Lu F1 (fun c _ => by unfold ABr; omega) (by unfold ABr; omega) (fun c _ _ => by unfold ABr; omega) (fun c _ _ => by unfold ABr; omega)).fr Lu F2 (fun c _ => by omega) (by omega) (fun c _ _ => by omega) (fun c _ _ => by omega), ?_⟩
    rw [(F2.2.2 229 _ (by omega)).1, (F1.2.2 229 _ (by unfold ABr; omega)).1, (F0.2.2 229 _ (by omega)).1]
    exact v2
end RM
