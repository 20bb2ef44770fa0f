/-! A JOIN of two stores: its lines, what both sides ask of them -/
def SpN (p : Spn) : Prop := (-5940 ≤ p.1 ∧ p.1 ≤ 5940) ∧ (-5940 ≤ p.2.1 ∧ p.2.1 ≤ 5940) ∧ (-5940 ≤ p.2.2.1 ∧ p.2.2.1 ≤ 5940) ∧ (-5940 ≤ p.2.2.2 ∧ p.2.2.2 ≤ 5940) ∧ SpW p
theorem can_n {ks : List Kn} (C : Can ks) : ∀ p ∈ spL ks, SpN p := by
  intro p hp
  obtain ⟨s1, s2, s3, s4, s5⟩ := sp_b32 C.1.2.1 C.1.2.2 p hp
  refine ⟨s1, s2, s3, s4, s5, fun e0 => ?_⟩
  unfold spL at hp
  obtain ⟨k, hk, e⟩ := List.mem_filterMap.mp hp
  have hkl := List.mem_range.mp hk
  unfold spO at e
  split at e
  · rename_i c
    have f := C.1.2.2.2 k hkl c
    rw [← Option.some.inj e] at e0
    dsimp only at e0
    omega
  · split at e
    · rw [← Option.some.inj e]
    · cases e
theorem jo_sb {p q : Spn} (hp : SpN p) (hq : SpN q) : ∀ s ∈ joS p q, SpB s := by
  intro s hs
  obtain ⟨a1, a2, a3, a4, a5⟩ := hp
  obtain ⟨b1, b2, b3, b4, b5⟩ := hq
  unfold SpW at a5 b5
  unfold joS at hs
  split at hs
  · rw [List.mem_singleton] at hs
    subst hs
    unfold SpB
    dsimp only
    exact ⟨by omega, by omega, by omega, by omega, by omega⟩
  · split at hs
    · rcases List.mem_cons.mp hs with z | z
      · subst z; unfold SpB; dsimp only; exact ⟨by omega, by omega, by omega, by omega, by omega⟩
      · rw [List.mem_singleton] at z; subst z; unfold SpB; dsimp only; exact ⟨by omega, by omega, by omega, by omega, by omega⟩
    · rcases List.mem_cons.mp hs with z | z
      · subst z; unfold SpB; dsimp only; exact ⟨by omega, by omega, by omega, by omega, by omega⟩
      · rw [List.mem_singleton] at z; subst z; unfold SpB; dsimp only; exact ⟨by omega, by omega, by omega, by omega, by omega⟩
theorem jo_2 (p q : Spn) : (joS p q).length ≤ 2 := by
  unfold joS
  split
  · exact Nat.le_succ _
  · split <;> exact Nat.le_refl _
section JN
variable {fs gs : List Spn}
theorem jm_sb (hf : ∀ p ∈ fs, SpN p) (hg : ∀ p ∈ gs, SpN p) : ∀ s ∈ joM fs gs, SpB s := by
  intro s hs
  unfold joM at hs
  obtain ⟨p, hp, hs⟩ := List.mem_flatMap.mp hs
  obtain ⟨q, hq, hs⟩ := List.mem_flatMap.mp hs
  exact jo_sb (hf p hp) (hg q hq) s hs
theorem jm_len (hf : fs.length ≤ 12) (hg : gs.length ≤ 12) : (joM fs gs).length ≤ 288 := by
  have h1 : ∀ p : Spn, (gs.flatMap (joS p)).length ≤ 24 := fun p => by
    have := fm_le12 (c := 2) (f := joS p) gs (fun q _ => jo_2 p q)
    omega
  have := fm_le12 (c := 24) (f := fun p => gs.flatMap (joS p)) fs (fun p _ => h1 p)
  unfold joM
  omega
theorem many_lok {sps : List Spn} (hl : sps.length ≤ 288) (hb : ∀ p ∈ sps, SpB p) (hpie : ∀ k ps, k ≤ (sps.map lby).length → EnvN (lnn (sps.map lby)) k ps → 2 * ps.length + 288 ≤ 4000) (hkn : ∀ ks, PaperIs (lnn (sps.map lby)) (sps.map lby).length ks → ks.length ≤ 1600) : LOk 564537600 23760 23760 26826826752000 1129075200 (lnn (sps.map lby)) (sps.map lby).length := by
  have hn : (sps.map lby).length ≤ 288 := by rw [List.length_map]; exact hl
  refine ⟨⟨by decide, by decide, by decide, by decide⟩, by omega, by decide, fun k hk => ?_, fun k hk => ?_, fun l o hol hln _ => ?_, fun k ps hk he => ?_, hkn⟩
  · obtain ⟨p, hp, e⟩ := few_at hb hk
    rw [e]; exact (lby_b hp).1
  · obtain ⟨p, hp, e⟩ := few_at hb hk
    obtain ⟨-, b1, b2, -⟩ := lby_b hp
    rw [e]
    refine ⟨⟨by omega, by omega⟩, ⟨by omega, by omega⟩, ⟨?_, ?_, ?_⟩, ?_, ?_, ?_⟩
    · show -26826826752000 ≤ lnF (lby p); omega
    · show lnF (lby p) ≤ 26826826752000; omega
    · show ((1 : Nat) : Int) ≤ 1129075200; decide
    · show -26826826752000 ≤ lnT (lby p); omega
    · show lnT (lby p) ≤ 26826826752000; omega
    · show ((1 : Nat) : Int) ≤ 1129075200; decide
  · obtain ⟨p, hp, e⟩ := few_at hb (show o < _ by omega)
    obtain ⟨p', hp', e'⟩ := few_at hb hln
    rw [e, e']; exact few_xb (lby_b hp').1 (lby_b hp).1
  · have := hpie k ps hk he; omega
theorem many_co {sps : List Spn} (hl : sps.length ≤ 288) (hb : ∀ p ∈ sps, SpB p) (hkn : ∀ ks, PaperIs (lnn (sps.map lby)) (sps.map lby).length ks → ks.length ≤ 1600) : CO 564537600 23760 23760 11880 26826826752000 1129075200 (lnn (sps.map lby)) (sps.map lby).length 288 := by
  have hn : (sps.map lby).length ≤ 288 := by rw [List.length_map]; exact hl
  refine ⟨⟨by decide, by decide, by decide, by decide⟩, by omega, by decide, fun k hk => ?_, by decide, fun k hk => ?_, by decide, by decide, by decide, by decide, fun o m ho hm _ => ?_, hkn⟩
  · obtain ⟨p, hp, e⟩ := few_at hb hk
    rw [e]; exact (lby_b hp).1
  · obtain ⟨p, hp, e⟩ := few_at hb hk
    rw [e]; exact (lby_b hp).2
  · obtain ⟨p, hp, e⟩ := few_at hb ho
    obtain ⟨p', hp', e'⟩ := few_at hb hm
    rw [e, e']
    refine ⟨few_xb (lby_b hp).1 (lby_b hp').1, ?_⟩
    have m1 := mul_b (M := 564537600) (N := 23760) (lby_b hp').1.1 (lby_b hp).1.2.1
    have m2 := mul_b (M := 564537600) (N := 23760) (lby_b hp).1.1 (lby_b hp').1.2.1
    exact ⟨by omega, by omega⟩
theorem jm_both {ks ks' : List Kn} (C : Can ks) (C' : Can ks') : (∀ k ps, k ≤ ((joM (spL ks) (spL ks')).map lby).length → EnvN (lnn ((joM (spL ks) (spL ks')).map lby)) k ps → 2 * ps.length + 288 ≤ 4000) ∧ ∀ ks0, PaperIs (lnn ((joM (spL ks) (spL ks')).map lby)) ((joM (spL ks) (spL ks')).map lby).length ks0 → ks0.length ≤ 1600 := by
  have wf : ∀ p ∈ spL ks, SpW p := fun p hp => (can_n C p hp).2.2.2.2
  have wg : ∀ p ∈ spL ks', SpW p := fun p hp => (can_n C' p hp).2.2.2.2
  obtain ⟨c, G, h1, h2, h3, h4, h5, h6⟩ := jo_num (can_sb C).1 (can_sb C').1 (flt_two _ wf) (flt_two _ wg) (can_11 C) (can_11 C')
  refine ⟨fun k ps hk he => ?_, fun ks0 hp => ?_⟩
  · have := jo_pie wf wg h1 h2 h3 h4 hk he
    omega
  · have := jo_kn wf wg h1 h2 h3 h4 hp
    omega
theorem jm_lok {ks ks' : List Kn} (C : Can ks) (C' : Can ks') : LOk 564537600 23760 23760 26826826752000 1129075200 (lnn ((joM (spL ks) (spL ks')).map lby)) ((joM (spL ks) (spL ks')).map lby).length := many_lok (jm_len (can_sb C).1 (can_sb C').1) (jm_sb (can_n C) (can_n C')) (jm_both C C').1 (jm_both C C').2
theorem jm_co {ks ks' : List Kn} (C : Can ks) (C' : Can ks') : CO 564537600 23760 23760 11880 26826826752000 1129075200 (lnn ((joM (spL ks) (spL ks')).map lby)) ((joM (spL ks) (spL ks')).map lby).length 288 := many_co (jm_len (can_sb C).1 (can_sb C').1) (jm_sb (can_n C) (can_n C')) (jm_both C C').2
end JN
