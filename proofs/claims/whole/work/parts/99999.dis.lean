/-! LINES OF ONE STORE: no two are live at one place -/
theorem lnn_ge {ll : List Ln} {k : Nat} (hk : k < ll.length) : lnn ll k = ll[k] := by
  unfold lnn
  rw [List.getElem?_eq_getElem hk]; rfl
theorem dis_lv {ll : List Ln} (pw : ll.Pairwise (fun p q => lnT p ≤ lnF q)) {o l : Nat} (hol : o < l) (hl : l < ll.length) {sd : Bool} {x : Rat} (h1 : lv (lnn ll) sd x l) (h2 : lv (lnn ll) sd x o) : False := by
  have p := List.pairwise_iff_getElem.mp pw o l (by omega) hl hol
  rw [← lnn_ge (show o < ll.length by omega), ← lnn_ge hl] at p
  have p2 : (lnT (lnn ll o) : Rat) ≤ (lnF (lnn ll l) : Rat) := Rat.intCast_le_intCast.mpr p
  cases sd with
  | true =>
    have a := lvt.mp h1
    have b := lvt.mp h2
    grind
  | false =>
    have a := lvFf.mp h1
    have b := lvFf.mp h2
    grind
theorem dis_lok {ll : List Ln} {MA MB MC : Int} (hl : ll.length ≤ 31) (pw : ll.Pairwise (fun p q => lnT p ≤ lnF q)) (hb : ∀ l ∈ ll, LBd MA MB MC l ∧ (-5940 ≤ lnF l ∧ lnF l ≤ 5940) ∧ (-5940 ≤ lnT l ∧ lnT l ≤ 5940)) (kk : Kon MA MB MC 5940 1) (km : MB * MC ≤ 4611686018427387904) : LOk MA MB MC 5940 1 (lnn ll) ll.length := by
  have at0 : ∀ k, k < ll.length → lnn ll k ∈ ll := fun k hk => List.mem_of_getElem? (lnn_at hk)
  refine ⟨kk, by omega, km, fun k hk => (hb _ (at0 k hk)).1, fun k hk => ?_, fun l o hol hln z => ?_, fun k ps hk he => ?_, fun ks hp => ?_⟩
  · obtain ⟨-, b1, b2⟩ := hb _ (at0 k hk)
    exact ⟨⟨by omega, by omega⟩, ⟨by omega, by omega⟩, ⟨b1.1, b1.2, by show ((1 : Nat) : Int) ≤ 1; decide⟩, b2.1, b2.2, by show ((1 : Nat) : Int) ≤ 1; decide⟩
  · obtain ⟨sd, x, h1, h2⟩ := z
    exact absurd (dis_lv pw hol hln h1 h2) id
  · have := pies_few he (show k ≤ 31 by omega); omega
  · have := knots_few hp hl; omega
theorem sp_pw {ks : List Kn} (F : StF ks) : (spL ks).Pairwise (fun p q => p.2.2.1 ≤ q.1) := by
  unfold spL
  rw [List.pairwise_filterMap]
  refine List.Pairwise.imp_of_mem (fun {a b} ha hb hab p hp q hq => ?_) List.pairwise_lt_range
  have hb := List.mem_range.mp hb
  have ep : p.2.2.1 ≤ kx ks (a + 1) ∨ p.2.2.1 = kx ks a := by
    unfold spO at hp
    split at hp
    · rw [← Option.some.inj hp]; exact Or.inl (Int.le_refl _)
    · split at hp
      · rw [← Option.some.inj hp]; exact Or.inr rfl
      · cases hp
  have eq0 : q.1 = kx ks b := by
    unfold spO at hq
    split at hq
    · rw [← Option.some.inj hq]
    · split at hq
      · rw [← Option.some.inj hq]
      · cases hq
  have m1 := F.1 (a + 1) b (by omega) hb
  have m2 := F.1 a b (by omega) hb
  rw [eq0]
  rcases ep with z | z <;> omega
