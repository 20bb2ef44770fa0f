/-! CALLS THAT CHANGE THE STATE: refusals, dot, clear, undo -/
def Cal (f g : xH → Option (Int32 × xH)) : Prop := ∀ h S, AOk S → CSt h S → MSt h S → ∃ r h1 h2 S', f h = some (r, h1) ∧ g h1 = some (r, h2) ∧ AOk S' ∧ CSt h2 S' ∧ MSt h2 S'
def MCo (h : xH) (S : Ast) : Prop := MI0 h (aC S) ∧ UnM h (snL (aC S) (aU S)) ∧ MIm h (aI S)
theorem Snp.img {A : Nat → Nat → Prop} {h h' : xH} {k : Nat} {f : Nat → List Kn} (s : Snp h 230 231 232 233 k f) (L : LenOk f) (g : Fr A h h') (hA : ∀ r c, 230 ≤ r → r ≤ 233 → ¬ A r c) : Snp h' 230 231 232 233 k f := s.fr L g (fun c _ => hA _ _ (by decide) (by decide)) (hA _ _ (by decide) (by decide)) (fun c _ _ => hA _ _ (by decide) (by decide)) (fun c _ _ => hA _ _ (by decide) (by decide))
section AC
variable {h h' : xH} {S : Ast}
theorem MCo.fr {A : Nat → Nat → Prop} (M : MCo h S) (K : AOk S) (g : Fr A h h') (hA : ∀ r c, 222 ≤ r → r ≤ 234 → ¬ A r c) (hA2 : ¬ A 220 4 ∧ ¬ A 220 12 ∧ ¬ A 220 18) : MCo h' S := by
  refine ⟨M.1.fr2 g (fun r c p q => hA r c p (by omega)) hA2.1, M.2.1.fr (fun u hu => (K.2.1 u hu).len) g (fun r c p q => hA r c (by omega) (by omega)) hA2.2, fun k hk => ⟨by rw [(g.2.2 234 k (hA _ _ (by decide) (by decide))).1]; exact (M.2.2 k hk).1, fun f ef => ((M.2.2 k hk).2 f ef).img (K.2.2.1 k f hk ef).len g (fun r c p q => hA r c (by omega) (by omega))⟩⟩
def refA (S : Ast) (a : Int) : Ast := (aC S, aU S, aI S, aT S, aF S, i32 a, fun k => if k = (-a).toNat then aR S k + 1 else aR S k)
theorem c_ref {a : Int} (C : CSt h S) (ha : -6 ≤ a ∧ a ≤ -1) : ∃ h1, fX6_refuse 2 (i32 a) h = some (i32 a, h1) ∧ CSt h1 (refA S a) ∧ Out h h1 := by
  obtain ⟨cap, lst, c1, c2, c3, c4, c5⟩ := C
  have f : Fr ARf h (sI (sI h 2 6 (i32 a)) 66 (-a).toNat (hI h 66 (-a).toNat + 1)) := (Fr.I _ (Or.inl ⟨rfl, rfl⟩)).tr (Fr.I _ (Or.inr rfl))
  have o : ∀ r c, ¬ ARf r c → hI (sI (sI h 2 6 (i32 a)) 66 (-a).toNat (hI h 66 (-a).toNat + 1)) r c = hI h r c := fun r c z => (f.2.2 r c z).1
  refine ⟨_, c_refuse c1.1.1 ha, ⟨cap, lst, c1.fr f (fun r k fr z => ?_) (fun k => by unfold ARf; omega), c2, c3, ?_, fun k hk => ?_, ?_, ?_, fun k hk => ?_⟩, f.out (fun r k p q => by unfold ARf; omega)⟩
  · have := fr.2.1
    rcases z with z | z
    · rw [z.1] at this; cases this
    · rw [z] at this; cases this
  · rw [hI_sI, if_neg (by omega), hI_sI, if_pos ⟨rfl, rfl⟩]; rfl
  · show _ = (if k = (-a).toNat then aR S k + 1 else aR S k)
    rw [hI_sI]
    by_cases c : k = (-a).toNat
    · rw [if_pos ⟨rfl, c⟩, if_pos c, ← c, c5.1 k hk]
    · rw [if_neg (fun z => c z.2), if_neg c, hI_sI, if_neg (by omega)]; exact c5.1 k hk
  · rw [o 64 0 (by unfold ARf; omega)]; exact c5.2.1
  · rw [o 64 1 (by unfold ARf; omega)]; exact c5.2.2.1
  · rw [o 65 k (by unfold ARf; omega)]; exact c5.2.2.2 k hk
theorem m_ref {a : Int} (K : AOk S) (M : MSt h S) (ha : -6 ≤ a ∧ a ≤ -1) : ∃ h1, fX7_refuse 220 (i32 a) (sI h 220 0 0) = some (i32 a, h1) ∧ MSt h1 (refA S a) ∧ Fr In220 h h1 := by
  obtain ⟨m1, m2, m3, m4, m5⟩ := M
  have f0 : Fr (fun r c => r = 220 ∧ c = 0) h (sI h 220 0 0) := Fr.I _ ⟨rfl, rfl⟩
  have ex : ∃ g, g = sI (sI (sI h 220 0 0) 220 1 (i32 a)) 221 (-a).toNat (hI (sI h 220 0 0) 221 (-a).toNat + 1) := ⟨_, rfl⟩
  obtain ⟨g, eg⟩ := ex
  have f : Fr (fun r c => (r = 220 ∧ (c = 0 ∨ c = 1)) ∨ r = 221) h g := by
    rw [eg]
    exact ((f0.mono (fun r c z => Or.inl ⟨z.1, Or.inl z.2⟩)).tr (Fr.I _ (Or.inl ⟨rfl, Or.inr rfl⟩))).tr (Fr.I _ (Or.inr rfl))
  have mc : MCo g S := MCo.fr ⟨m1, m2, m3⟩ K f (fun r c p q => by omega) (by omega)
  have E := m_refuse (h := sI h 220 0 0) (f0.mo m1.1) ha
  rw [← eg] at E
  refine ⟨g, E, ⟨mc.1, mc.2.1, mc.2.2, ?_, fun k hk => ?_, ?_, ?_, fun k hk => ?_⟩, f.mono (fun r c z => by unfold In220; omega)⟩
  · rw [eg, hI_sI, if_neg (by omega), hI_sI, if_pos ⟨rfl, rfl⟩]; rfl
  · show _ = (if k = (-a).toNat then aR S k + 1 else aR S k)
    rw [eg, hI_sI]
    by_cases c : k = (-a).toNat
    · rw [if_pos ⟨rfl, c⟩, if_pos c, ← c, hI_sI, if_neg (by omega), m5.1 k hk]
    · rw [if_neg (fun z => c z.2), if_neg c, hI_sI, if_neg (by omega), hI_sI, if_neg (by omega)]; exact m5.1 k hk
  · rw [(f.2.2 220 36 (by omega)).1]; exact m5.2.1
  · rw [(f.2.2 220 37 (by omega)).1]; exact m5.2.2.1
  · rw [(f.2.2 246 k (by omega)).1]; exact m5.2.2.2 k hk
/-- both refuse -/
theorem both_ref {a : Int} (K : AOk S) (C : CSt h S) (M : MSt h S) (ha : -6 ≤ a ∧ a ≤ -1) : ∃ h1 h2, fX6_refuse 2 (i32 a) h = some (i32 a, h1) ∧ Mo h1 ∧ fX7_refuse 220 (i32 a) (sI h1 220 0 0) = some (i32 a, h2) ∧ AOk (refA S a) ∧ CSt h2 (refA S a) ∧ MSt h2 (refA S a) := by
  obtain ⟨h1, E1, C1, O1⟩ := c_ref C ha
  have M1 := M.out O1
  obtain ⟨h2, E2, M2, F2⟩ := m_ref K M1 ha
  exact ⟨h1, h2, E1, M1.1.1, E2, K, C1.inn F2, M2⟩
/-! stores of one knot, of none -/
theorem can_nil : Can [] := by
  refine ⟨⟨by decide, (fun k hk => absurd hk List.not_mem_nil), (fun i j _ hj => absurd hj (Nat.not_lt_zero j)), (fun k hk => absurd hk (Nat.not_lt_zero k))⟩, [], fun _ => [], List.Pairwise.nil, fun x k ka hne => ?_, (fun x hx => absurd hx List.not_mem_nil), rfl⟩
  exfalso
  obtain ⟨a, b, c, ha, hb, hc, e0⟩ := ka
  have z : ∀ o : Nat, ¬ o < (spL ([] : List Kn)).length := fun o ho => by simp [spL] at ho
  have ea : a = none := Sd_one ha (Sd_no (fun k hk => absurd hk (z k)))
  have eb : b = none := Sd_one hb (Sd_no (fun k hk => absurd hk (z k)))
  have ec : c = none := Sp_one hc (show Sp _ _ x none from fun k hk => absurd hk (z k))
  rw [ea, eb, ec] at e0
  exact hne (by rw [e0]; rfl)
theorem can_dot {x y : Int} (hx : -5940 ≤ x ∧ x ≤ 5940) (hy : -5940 ≤ y ∧ y ≤ 5940) : Can [((x : Rat), (y : Rat), false)] := by
  have P : PaperIs (fun _ => (x, x, y, 0, 1)) 1 [((x : Rat), (y : Rat), false)] := by
    have nl : ∀ (sd : Bool) (z : Rat) (k : Nat), k < 1 → ¬ lv (fun _ => (x, x, y, 0, 1)) sd z k := fun sd z k _ q => q.2 q.1
    have vv : ∀ z : Rat, vl (x, x, y, 0, 1) z = (y : Rat) := fun z => by
      have := (lby_l (x1 := x) (y1 := y)).2.2 z
      have e : lby (x, y, x, y) = (x, x, y, 0, 1) := by unfold lby; rw [if_pos rfl]
      rw [e] at this; exact this
    refine ⟨[(x : Rat)], fun _ => [((x : Rat), (y : Rat), false)], List.pairwise_singleton _ _, fun z k ka hne => ?_, fun z hz => ?_, rfl⟩
    · obtain ⟨a, b, c, ha, hb, hc, e0⟩ := ka
      have ea : a = none := Sd_one ha (Sd_no (nl true z))
      have eb : b = none := Sd_one hb (Sd_no (nl false z))
      rw [ea, eb] at e0
      cases c with
      | none => exact absurd (by rw [e0]; rfl) hne
      | some v =>
        obtain ⟨⟨k0, hk0, hl, _⟩, _⟩ := hc
        rw [List.mem_singleton]
        exact hl.1.symm
    · rw [List.mem_singleton] at hz
      rw [hz]
      exact ⟨none, none, some (y : Rat), Sd_no (nl true _), Sd_no (nl false _), ⟨⟨0, by decide, ⟨rfl, rfl⟩, (vv _).symm⟩, fun k _ _ => by show (y : Rat) ≤ vl (x, x, y, 0, 1) _; rw [vv]; grind⟩, rfl⟩
  refine can_of P (fun k hk => ?_) (by show 1 ≤ 12; decide)
  rw [List.mem_singleton] at hk
  rw [hk]
  exact ⟨rfl, rfl, hx, hy⟩
theorem CurOk.store {cur : Nat → List Kn} {i : Nat} {ks : List Kn} (C : CurOk cur) (hi : i < 6) (K : Can ks) : CurOk (upA cur i ks) := by
  have e6 : upA cur i ks 6 = cur 6 := by unfold upA; rw [if_neg (by omega)]
  refine ⟨fun j hj => ?_, by rw [e6]; exact C.2.1, by rw [e6]; exact C.2.2⟩
  unfold upA
  by_cases c : j = i
  · rw [if_pos c]; exact K
  · rw [if_neg c]; exact C.1 j hj
theorem m2_32 : (-2 : Int32) = i32 (-2) := rfl
/-- the reference: remembered, then a store or the paper written, then told -/
theorem m_told {act : Int} (K : AOk S) (M : MSt h S) : ∃ g4, fX7_remember 220 (i32 act) (sI h 220 0 0) = some ((), g4) ∧ MI0 g4 (aC S) ∧ (∀ r c, ¬ ARm r c → ¬ (r = 220 ∧ c = 0) → hI g4 r c = hI h r c ∧ hJ g4 r c = hJ h r c) ∧ Fr In220 h g4 ∧ ∀ (A : Nat → Nat → Prop) (slot : Nat) (ks : List Kn) (g5 : xH), Fr A g4 g5 → (∀ r c, A r c → (222 ≤ r ∧ r ≤ 224) ∨ (235 ≤ r ∧ r ≤ 245) ∨ (247 ≤ r ∧ r ≤ 249) ∨ (r = 220 ∧ c ≠ 1 ∧ c ≠ 12 ∧ c ≠ 18 ∧ c ≠ 36 ∧ c ≠ 37)) → MI0 g5 (upA (aC S) slot ks) → MSt (sI g5 220 1 0) (actA S act slot ks) ∧ Fr In220 h (sI g5 220 1 0) := by
  obtain ⟨m1, m2, m3, m4, m5⟩ := M
  have f0 : Fr (fun r c => r = 220 ∧ c = 0) h (sI h 220 0 0) := Fr.I _ ⟨rfl, rfl⟩
  have mc := MCo.fr ⟨m1, m2, m3⟩ K f0 (fun r c p q => by omega) (by omega)
  obtain ⟨g4, E4, U4, F4⟩ := m_remember mc.1 K.1.len (fun u hu => (K.2.1 u hu).len) mc.2.1 act
  have J4 := mc.1.fr2 F4 (fun r c p q => by unfold ARm; omega) (by unfold ARm; omega)
  have FF4 : Fr In220 h g4 := (f0.mono (fun r c z => by unfold In220; omega)).tr (F4.mono (fun r c z => by unfold ARm at z; unfold In220; omega))
  refine ⟨g4, E4, J4, fun r c z1 z2 => ⟨(F4.2.2 r c z1).1.trans (f0.2.2 r c z2).1, (F4.2.2 r c z1).2.trans (f0.2.2 r c z2).2⟩, FF4, fun A slot ks g5 F5 hA I5 => ?_⟩
  have F6 : Fr (fun r c => r = 220 ∧ c = 1) g5 (sI g5 220 1 0) := Fr.I _ ⟨rfl, rfl⟩
  have Lsn : ∀ u ∈ (act, aC S) :: (snL (aC S) (aU S)).take 7, LenOk u.2 := fun u hu => by
    rcases List.mem_cons.mp hu with e0 | e0
    · rw [e0]; exact K.1.len
    · exact (K.2.1 u (List.mem_of_mem_take e0)).len
  have nA : ∀ r c, (221 = r ∨ (225 ≤ r ∧ r ≤ 234) ∨ r = 246 ∨ (r = 220 ∧ (c = 12 ∨ c = 18 ∨ c = 36 ∨ c = 37))) → ¬ A r c := fun r c z y => by have := hA r c y; omega
  have U6 := (U4.fr Lsn F5 (fun r c p q => nA r c (by omega)) ⟨nA _ _ (by omega), nA _ _ (by omega)⟩).fr Lsn F6 (fun r c p q => by omega) (by omega)
  have sm : ∀ r c, (r = 221 ∨ r = 246 ∨ (230 ≤ r ∧ r ≤ 234) ∨ (r = 220 ∧ (c = 36 ∨ c = 37))) → hI (sI g5 220 1 0) r c = hI h r c := fun r c z => by
    rw [(F6.2.2 r c (by omega)).1, (F5.2.2 r c (nA r c (by omega))).1, (F4.2.2 r c (by unfold ARm; omega)).1, (f0.2.2 r c (by omega)).1]
  have im6 : MIm (sI g5 220 1 0) (aI S) := by
    intro k hk
    have hm := m3 k hk
    refine ⟨by rw [sm 234 k (by omega)]; exact hm.1, fun f ef => ?_⟩
    have L := (K.2.2.1 k f hk ef).len
    exact ((((hm.2 f ef).img L f0 (fun r c p q => by omega)).img L F4 (fun r c p q => by unfold ARm; omega)).img L F5 (fun r c p q => nA r c (by omega))).img L F6 (fun r c p q => by omega)
  refine ⟨⟨I5.fr2 F6 (fun r c p q => by omega) (by omega), by rw [snL_act]; exact U6, im6, by rw [hI_sI, if_pos ⟨rfl, rfl⟩]; rfl, fun k hk => by rw [sm 221 k (by omega)]; exact m5.1 k hk, by rw [sm 220 36 (by omega)]; exact m5.2.1, by rw [sm 220 37 (by omega)]; exact m5.2.2.1, fun k hk => by rw [sm 246 k (by omega)]; exact m5.2.2.2 k hk⟩, (FF4.tr (F5.mono (fun r c z => by have := hA r c z; unfold In220; omega))).tr (F6.mono (fun r c z => by unfold In220; omega))⟩
/-- a store's row is written -/
theorem m_row {cur : Nat → List Kn} {n : Nat} {ks : List Kn} {g4 g5 : xH} (J : MI0 g4 cur) (hn : n < 6) (h12 : ∀ i, i < 6 → (cur i).length ≤ 12) (F5 : Fr (fun r c => r = 222 ∧ 37 * n ≤ c ∧ c < 37 * n + 37) g4 g5) (R : Rwi g5 n ks) : MI0 g5 (upA cur n ks) := by
  refine ⟨F5.mo J.1, fun j hj => ?_, ?_⟩
  · unfold upA
    by_cases c : j = n
    · rw [if_pos c, c]; exact R
    · rw [if_neg c]
      have Rj := J.2.1 j hj
      have hl := h12 j hj
      refine ⟨by rw [(F5.2.2 222 _ (by omega)).1]; exact Rj.1, fun k hk => ?_⟩
      rw [(F5.2.2 222 _ (by omega)).1, (F5.2.2 222 _ (by omega)).1, (F5.2.2 222 _ (by omega)).1]
      exact Rj.2 k hk
  · have e6 : upA cur n ks 6 = cur 6 := by unfold upA; rw [if_neg (by omega)]
    rw [e6]
    refine ⟨fun j kn e0 => ?_, by rw [(F5.2.2 220 4 (by omega)).1]; exact J.2.2.2⟩
    rw [(F5.2.2 223 _ (by omega)).2, (F5.2.2 223 _ (by omega)).2, (F5.2.2 223 _ (by omega)).2, (F5.2.2 223 _ (by omega)).2, (F5.2.2 224 _ (by omega)).1]
    exact J.2.2.1 j kn e0
end AC
