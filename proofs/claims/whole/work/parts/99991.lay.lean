/-! FEW LINES: what both sides ask of them; CALLS: lay -/
def SpB (p : Spn) : Prop := (-11880 ≤ p.1 ∧ p.1 ≤ 11880) ∧ (-11880 ≤ p.2.1 ∧ p.2.1 ≤ 11880) ∧ (-11880 ≤ p.2.2.1 ∧ p.2.2.1 ≤ 11880) ∧ (-11880 ≤ p.2.2.2 ∧ p.2.2.2 ≤ 11880) ∧ p.1 ≤ p.2.2.1
theorem lby_b {p : Spn} (h : SpB p) : LBd 564537600 23760 23760 (lby p) ∧ (-11880 ≤ lnF (lby p) ∧ lnF (lby p) ≤ 11880) ∧ (-11880 ≤ lnT (lby p) ∧ lnT (lby p) ≤ 11880) ∧ lnF (lby p) ≤ lnT (lby p) := by
  obtain ⟨x1, y1, x2, y2⟩ := p
  obtain ⟨a, b, c, d, e⟩ := h
  have a : -11880 ≤ x1 ∧ x1 ≤ 11880 := a
  have b : -11880 ≤ y1 ∧ y1 ≤ 11880 := b
  have c : -11880 ≤ x2 ∧ x2 ≤ 11880 := c
  have d : -11880 ≤ y2 ∧ y2 ≤ 11880 := d
  have e : x1 ≤ x2 := e
  by_cases z : x1 = x2
  · have E : lby (x1, y1, x2, y2) = (x1, x2, y1, 0, 1) := if_pos z
    rw [E]
    exact ⟨⟨⟨by show -564537600 ≤ y1; omega, by show y1 ≤ 564537600; omega⟩, ⟨by show (-23760 : Int) ≤ 0; decide, by show (0 : Int) ≤ 23760; decide⟩, by show (0 : Int) < 1; decide, by show (1 : Int) ≤ 23760; decide⟩, a, c, e⟩
  · have E : lby (x1, y1, x2, y2) = (x1, x2, y1 * (x2 - x1) - (y2 - y1) * x1, y2 - y1, x2 - x1) := if_neg z
    rw [E]
    have m1 := mul_b (M := 11880) (N := 23760) b (show -23760 ≤ x2 - x1 ∧ x2 - x1 ≤ 23760 by omega)
    have m2 := mul_b (M := 23760) (N := 11880) (show -23760 ≤ y2 - y1 ∧ y2 - y1 ≤ 23760 by omega) a
    exact ⟨⟨⟨by show -564537600 ≤ y1 * (x2 - x1) - (y2 - y1) * x1; omega, by show y1 * (x2 - x1) - (y2 - y1) * x1 ≤ 564537600; omega⟩, ⟨by show -23760 ≤ y2 - y1; omega, by show y2 - y1 ≤ 23760; omega⟩, by show 0 < x2 - x1; omega, by show x2 - x1 ≤ 23760; omega⟩, a, c, e⟩
theorem few_at {sps : List Spn} (hb : ∀ p ∈ sps, SpB p) {k : Nat} (hk : k < (sps.map lby).length) : ∃ p, SpB p ∧ lnn (sps.map lby) k = lby p := by
  obtain ⟨p, hp, e⟩ := List.mem_map.mp (List.mem_of_getElem? (lnn_at hk))
  exact ⟨p, hb p hp, e.symm⟩
theorem few_xb {l o : Ln} (hl : LBd 564537600 23760 23760 l) (ho : LBd 564537600 23760 23760 o) : XB 26826826752000 1129075200 l o := by
  obtain ⟨a1, a2, a3, a4⟩ := hl
  obtain ⟨b1, b2, b3, b4⟩ := ho
  have m1 := mul_b (M := 564537600) (N := 23760) b1 (show -23760 ≤ lnC l ∧ lnC l ≤ 23760 by omega)
  have m2 := mul_b (M := 564537600) (N := 23760) a1 (show -23760 ≤ lnC o ∧ lnC o ≤ 23760 by omega)
  have m3 := mul_b (M := 23760) (N := 23760) a2 (show -23760 ≤ lnC o ∧ lnC o ≤ 23760 by omega)
  have m4 := mul_b (M := 23760) (N := 23760) b2 (show -23760 ≤ lnC l ∧ lnC l ≤ 23760 by omega)
  exact ⟨⟨by omega, by omega⟩, by omega, by omega⟩
theorem few_lok {sps : List Spn} (hl : sps.length ≤ 31) (hb : ∀ p ∈ sps, SpB p) : LOk 564537600 23760 23760 26826826752000 1129075200 (lnn (sps.map lby)) (sps.map lby).length := by
  have hn : (sps.map lby).length ≤ 31 := by rw [List.length_map]; exact hl
  refine ⟨⟨by decide, by decide, by decide, by decide⟩, by omega, by decide, fun k hk => ?_, fun k hk => ?_, fun l o hol hln _ => ?_, fun k ps hk he => ?_, fun ks hp => ?_⟩
  · obtain ⟨p, hp, e⟩ := few_at hb hk
    rw [e]; exact (lby_b hp).1
  · obtain ⟨p, hp, e⟩ := few_at hb hk
    obtain ⟨-, b1, b2, -⟩ := lby_b hp
    rw [e]
    refine ⟨⟨by omega, by omega⟩, ⟨by omega, by omega⟩, ⟨?_, ?_, ?_⟩, ?_, ?_, ?_⟩
    · show -26826826752000 ≤ lnF (lby p); omega
    · show lnF (lby p) ≤ 26826826752000; omega
    · show ((1 : Nat) : Int) ≤ 1129075200; decide
    · show -26826826752000 ≤ lnT (lby p); omega
    · show lnT (lby p) ≤ 26826826752000; omega
    · show ((1 : Nat) : Int) ≤ 1129075200; decide
  · obtain ⟨p, hp, e⟩ := few_at hb (show o < _ by omega)
    obtain ⟨p', hp', e'⟩ := few_at hb hln
    rw [e, e']; exact few_xb (lby_b hp').1 (lby_b hp).1
  · have := pies_few he (show k ≤ 31 by omega); omega
  · have := knots_few hp hn; omega
theorem few_co {sps : List Spn} (hl : sps.length ≤ 31) (hb : ∀ p ∈ sps, SpB p) {M : Nat} (hM : 31 ≤ M) (hM2 : M ≤ 60000) : CO 564537600 23760 23760 11880 26826826752000 1129075200 (lnn (sps.map lby)) (sps.map lby).length M := by
  have hn : (sps.map lby).length ≤ 31 := by rw [List.length_map]; exact hl
  refine ⟨⟨by decide, by decide, by decide, by decide⟩, by omega, hM2, fun k hk => ?_, by decide, fun k hk => ?_, by decide, by decide, by decide, by decide, fun o m ho hm _ => ?_, fun ks hp => ?_⟩
  · obtain ⟨p, hp, e⟩ := few_at hb hk
    rw [e]; exact (lby_b hp).1
  · obtain ⟨p, hp, e⟩ := few_at hb hk
    rw [e]; exact (lby_b hp).2
  · obtain ⟨p, hp, e⟩ := few_at hb ho
    obtain ⟨p', hp', e'⟩ := few_at hb hm
    rw [e, e']
    refine ⟨few_xb (lby_b hp).1 (lby_b hp').1, ?_⟩
    have m1 := mul_b (M := 564537600) (N := 23760) (lby_b hp').1.1 (lby_b hp).1.2.1
    have m2 := mul_b (M := 564537600) (N := 23760) (lby_b hp).1.1 (lby_b hp').1.2.1
    exact ⟨by omega, by omega⟩
  · have := knots_few hp hn; omega
section LA
variable {h : xH} {S : Ast}
theorem can_sb {ks : List Kn} (C : Can ks) : (spL ks).length ≤ 12 ∧ ∀ p ∈ spL ks, SpB p := by
  refine ⟨?_, fun p hp => ?_⟩
  · have := fm_len (spO ks) ks.length
    have := C.1.1
    unfold spL; omega
  · obtain ⟨a, b, c, d, e⟩ := sp_b32 C.1.2.1 C.1.2.2 p hp
    exact ⟨by omega, by omega, by omega, by omega, e⟩
/-- the reference remembers (in any heap that holds the state), then anything changes, then told -/
theorem m_told2 {act : Int} (K : AOk S) (M : MSt h S) : ∃ g4, fX7_remember 220 (i32 act) h = some ((), g4) ∧ MI0 g4 (aC S) ∧ Fr ARm h g4 ∧ ∀ (A : Nat → Nat → Prop) (slot : Nat) (ks : List Kn) (g5 : xH), Fr A g4 g5 → (∀ r c, A r c → (222 ≤ r ∧ r ≤ 224) ∨ (235 ≤ r ∧ r ≤ 245) ∨ (247 ≤ r ∧ r ≤ 249) ∨ (r = 220 ∧ c ≠ 1 ∧ c ≠ 12 ∧ c ≠ 18 ∧ c ≠ 36 ∧ c ≠ 37)) → MI0 g5 (upA (aC S) slot ks) → MSt (sI g5 220 1 0) (actA S act slot ks) ∧ Fr In220 h (sI g5 220 1 0) := by
  obtain ⟨m1, m2, m3, m4, m5⟩ := M
  obtain ⟨g4, E4, U4, F4⟩ := m_remember m1 K.1.len (fun u hu => (K.2.1 u hu).len) m2 act
  have J4 := m1.fr2 F4 (fun r c p q => by unfold ARm; omega) (by unfold ARm; omega)
  refine ⟨g4, E4, J4, F4, fun A slot ks g5 F5 hA I5 => ?_⟩
  have F6 : Fr (fun r c => r = 220 ∧ c = 1) g5 (sI g5 220 1 0) := Fr.I _ ⟨rfl, rfl⟩
  have Lsn : ∀ u ∈ (act, aC S) :: (snL (aC S) (aU S)).take 7, LenOk u.2 := fun u hu => by
    rcases List.mem_cons.mp hu with e0 | e0
    · rw [e0]; exact K.1.len
    · exact (K.2.1 u (List.mem_of_mem_take e0)).len
  have nA : ∀ r c, (221 = r ∨ (225 ≤ r ∧ r ≤ 234) ∨ r = 246 ∨ (r = 220 ∧ (c = 12 ∨ c = 18 ∨ c = 36 ∨ c = 37))) → ¬ A r c := fun r c z y => by have := hA r c y; omega
  have U6 := (U4.fr Lsn F5 (fun r c p q => nA r c (by omega)) ⟨nA _ _ (by omega), nA _ _ (by omega)⟩).fr Lsn F6 (fun r c p q => by omega) (by omega)
  have sm : ∀ r c, (r = 221 ∨ r = 246 ∨ (230 ≤ r ∧ r ≤ 234) ∨ (r = 220 ∧ (c = 36 ∨ c = 37))) → hI (sI g5 220 1 0) r c = hI h r c := fun r c z => by
    rw [(F6.2.2 r c (by omega)).1, (F5.2.2 r c (nA r c (by omega))).1, (F4.2.2 r c (by unfold ARm; omega)).1]
  have im6 : MIm (sI g5 220 1 0) (aI S) := by
    intro k hk
    have hm := m3 k hk
    refine ⟨by rw [sm 234 k (by omega)]; exact hm.1, fun f ef => ?_⟩
    have L := (K.2.2.1 k f hk ef).len
    exact (((hm.2 f ef).img L F4 (fun r c p q => by unfold ARm; omega)).img L F5 (fun r c p q => nA r c (by omega))).img L F6 (fun r c p q => by omega)
  refine ⟨⟨I5.fr2 F6 (fun r c p q => by omega) (by omega), by rw [snL_act]; exact U6, im6, by rw [hI_sI, if_pos ⟨rfl, rfl⟩]; rfl, fun k hk => by rw [sm 221 k (by omega)]; exact m5.1 k hk, by rw [sm 220 36 (by omega)]; exact m5.2.1, by rw [sm 220 37 (by omega)]; exact m5.2.2.1, fun k hk => by rw [sm 246 k (by omega)]; exact m5.2.2.2 k hk⟩, ((F4.mono (fun r c z => by unfold ARm at z; unfold In220; omega)).tr (F5.mono (fun r c z => by have := hA r c z; unfold In220; omega))).tr (F6.mono (fun r c z => by unfold In220; omega))⟩
/-- the paper is written -/
theorem m_pap {cur : Nat → List Kn} {ks : List Kn} {g4 g5 : xH} (J : MI0 g4 cur) (F5 : Fr AP g4 g5) (kp : Kp g5 ks) : MI0 g5 (upA cur 6 ks) := by
  have e6 : upA cur 6 ks 6 = ks := by unfold upA; rw [if_pos rfl]
  refine ⟨F5.mo J.1, fun i hi => ?_, by rw [e6]; exact kp⟩
  have ei : upA cur 6 ks i = cur i := by unfold upA; rw [if_neg (by omega)]
  rw [ei]
  have R := J.2.1 i hi
  refine ⟨by rw [(F5.2.2 222 _ (by unfold AP; omega)).1]; exact R.1, fun k hk => ?_⟩
  rw [(F5.2.2 222 _ (by unfold AP; omega)).1, (F5.2.2 222 _ (by unfold AP; omega)).1, (F5.2.2 222 _ (by unfold AP; omega)).1]
  exact R.2 k hk
/-- the reference's onto: lines lie ready, few of them -/
theorem m_onto {act : Int} {sps : List Spn} (hl : sps.length ≤ 31) (hb : ∀ p ∈ sps, SpB p) (K : AOk S) (M : MSt h S) (w : Lnl h (sps.map lby)) : ∃ g ks, fX7_onto 220 (i32 act) h = some (i32 (ks.length : Int), g) ∧ PaperIs (lnn (sps.map lby)) (sps.map lby).length ks ∧ MSt g (actA S act 6 ks) ∧ Fr In220 h g := by
  obtain ⟨g4, E4, J4, F4, fin⟩ := m_told2 (act := act) K M
  have w4 : Lnl g4 (sps.map lby) := by
    refine ⟨by rw [(F4.2.2 220 19 (by unfold ARm; omega)).1]; exact w.1, fun k l e => ?_⟩
    rw [(F4.2.2 235 _ (by unfold ARm; omega)).1, (F4.2.2 236 _ (by unfold ARm; omega)).1, (F4.2.2 237 _ (by unfold ARm; omega)).2, (F4.2.2 238 _ (by unfold ARm; omega)).2, (F4.2.2 239 _ (by unfold ARm; omega)).2]
    exact w.2 k l e
  obtain ⟨g5, ks, E5, P5, K5, F5⟩ := m_layPaper (few_lok hl hb) J4.1 w4.l w4.1
  obtain ⟨Mf, Ff⟩ := fin AP 6 ks g5 F5 (fun r c z => by unfold AP at z; omega) (m_pap J4 F5 K5)
  refine ⟨_, ks, ?_, P5, Mf, Ff⟩
  unfold fX7_onto
  rw [if_pos M.1.1.k220, E4, bd_some, E5, bd_some, K5.2, m_tell (F5.mo J4.1), bd_some]
end LA
