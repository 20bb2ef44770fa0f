/-! MANY LINES, never live together: pieces, knots; the lines of a sum -/
section DI
variable {ll : List Ln}
theorem dis_pie (pw : ll.Pairwise (fun p q => lnT p ≤ lnF q)) {k : Nat} {ps : List Pie} (hk : k ≤ ll.length) (he : EnvN (lnn ll) k ps) : ps.length ≤ k := by
  have := pies_le (c := k) (k := 0) (G := 1) (g := fun _ => 0) he (fun s t hs ht => ⟨fun z => absurd z (Nat.lt_irrefl _), fun ne _ => Or.inl (fun x z => by
    rcases Nat.lt_trichotomy s t with c | c | c
    · exact dis_lv pw c (by omega) z.2 z.1
    · exact ne c
    · exact dis_lv pw c (by omega) z.1 z.2)⟩) (fun s hs => Nat.zero_lt_one) (by decide) (fun y l nd hl => by
    have := List.Nodup.length_le_of_subset (l₂ := List.range k) nd (fun x hx => List.mem_range.mpr (hl x hx).2)
    rw [List.length_range] at this
    exact this)
  have t1 : tau 0 1 = 1 := rfl
  rw [t1, Nat.mul_one] at this
  exact this
theorem dis_kn (pw : ll.Pairwise (fun p q => lnT p ≤ lnF q)) {ks : List Kn} (hp : PaperIs (lnn ll) ll.length ks) : ks.length ≤ 6 * ll.length := by
  obtain ⟨xs, f, pw1, _, hk, rfl⟩ := hp
  rw [flat_ne]
  have pw2 : (xs.filter (fun x => !(f x).isEmpty)).Pairwise (fun a b => a < b) := pw1.sublist List.filter_sublist
  have sub := nd_sub (ys := (List.range ll.length).map (fun m => (lnF (lnn ll m) : Rat)) ++ (List.range ll.length).map (fun m => (lnT (lnn ll m) : Rat))) pw2 (fun x hx => by
    obtain ⟨h1, h2⟩ := List.mem_filter.mp hx
    have ne : f x ≠ [] := fun e => by rw [e] at h2; exact absurd h2 (by decide)
    by_cases c1 : x ∈ (List.range ll.length).map (fun m => (lnF (lnn ll m) : Rat))
    · exact List.mem_append_left _ c1
    · refine List.mem_append_right _ ?_
      by_cases c2 : x ∈ (List.range ll.length).map (fun m => (lnT (lnn ll m) : Rat))
      · exact c2
      · exfalso
        obtain ⟨o, m, ho, hm, om, ⟨sd, y, l1, l2⟩, _, _⟩ := kn_cross (hk x h1) ne (fun m hm => ⟨fun e => c1 (List.mem_map.mpr ⟨m, List.mem_range.mpr hm, e⟩), fun e => c2 (List.mem_map.mpr ⟨m, List.mem_range.mpr hm, e⟩)⟩)
        rcases Nat.lt_trichotomy o m with c | c | c
        · exact dis_lv pw c hm l2 l1
        · exact om c
        · exact dis_lv pw c ho l1 l2)
  have f3 := flat_3 (f := f) (xs.filter (fun x => !(f x).isEmpty)) (fun x hx => by
    obtain ⟨a, b, c, _, _, _, e⟩ := hk x (List.mem_filter.mp hx).1
    rw [e]; exact kno_3)
  rw [List.length_append, List.length_map, List.length_map, List.length_range] at sub
  omega
theorem disN_lok {MA MB MC : Int} (hl : ll.length ≤ 200) (pw : ll.Pairwise (fun p q => lnT p ≤ lnF q)) (hb : ∀ l ∈ ll, LBd MA MB MC l ∧ (-5940 ≤ lnF l ∧ lnF l ≤ 5940) ∧ (-5940 ≤ lnT l ∧ lnT l ≤ 5940)) (kk : Kon MA MB MC 5940 1) (km : MB * MC ≤ 4611686018427387904) : LOk MA MB MC 5940 1 (lnn ll) ll.length := by
  have at0 : ∀ k, k < ll.length → lnn ll k ∈ ll := fun k hk => List.mem_of_getElem? (lnn_at hk)
  refine ⟨kk, by omega, km, fun k hk => (hb _ (at0 k hk)).1, fun k hk => ?_, fun l o hol hln z => ?_, fun k ps hk he => ?_, fun ks hp => ?_⟩
  · obtain ⟨-, b1, b2⟩ := hb _ (at0 k hk)
    exact ⟨⟨by omega, by omega⟩, ⟨by omega, by omega⟩, ⟨b1.1, b1.2, by show ((1 : Nat) : Int) ≤ 1; decide⟩, b2.1, b2.2, by show ((1 : Nat) : Int) ≤ 1; decide⟩
  · obtain ⟨sd, x, h1, h2⟩ := z
    exact absurd (dis_lv pw hol hln h1 h2) id
  · have := dis_pie pw hk he; omega
  · have := dis_kn pw hp; omega
theorem disN_co {MA MB MC : Int} (hl : ll.length ≤ 200) (pw : ll.Pairwise (fun p q => lnT p ≤ lnF q)) (hb : ∀ l ∈ ll, LBd MA MB MC l ∧ (-5940 ≤ lnF l ∧ lnF l ≤ 5940) ∧ (-5940 ≤ lnT l ∧ lnT l ≤ 5940) ∧ lnF l ≤ lnT l) (kk : KonC MA MB MC 5940) (km : MC ≤ 4611686018427387904) : CO MA MB MC 5940 5940 1 (lnn ll) ll.length 288 := by
  have at0 : ∀ k, k < ll.length → lnn ll k ∈ ll := fun k hk => List.mem_of_getElem? (lnn_at hk)
  refine ⟨kk, by omega, by decide, fun k hk => (hb _ (at0 k hk)).1, km, fun k hk => (hb _ (at0 k hk)).2, by decide, by decide, by decide, by decide, fun o m ho hm z => ?_, fun ks hp => ?_⟩
  · obtain ⟨x, h1, h2⟩ := z
    rcases Nat.lt_trichotomy o m with c | c | c
    · exact absurd (dis_lv pw c hm h2 h1) id
    · rw [c]
      unfold XB Q
      rw [Int.sub_self, Int.sub_self, Int.sub_self]
      decide
    · exact absurd (dis_lv pw c ho h1 h2) id
  · have := dis_kn pw hp; omega
end DI
/-! the lines of a sum -/
def suL (f g : Ln) : Option Ln := if mxI (lnF f) (lnF g) ≤ mnI (lnT f) (lnT g) then some (mxI (lnF f) (lnF g), mnI (lnT f) (lnT g), lnA f * lnC g + lnA g * lnC f, lnB f * lnC g + lnB g * lnC f, lnC f * lnC g) else none
def suM (fs gs : List Ln) : List Ln := fs.flatMap (fun f => gs.filterMap (suL f))
theorem mx_ge (x y : Int) : (x ≤ mxI x y ∧ y ≤ mxI x y) ∧ (mnI x y ≤ x ∧ mnI x y ≤ y) := by
  unfold mxI mnI
  refine ⟨⟨?_, ?_⟩, ?_, ?_⟩ <;> split <;> omega
theorem su_ends {f g l : Ln} (e : suL f g = some l) : lnF f ≤ lnF l ∧ lnF g ≤ lnF l ∧ lnT l ≤ lnT f ∧ lnT l ≤ lnT g ∧ lnF l ≤ lnT l ∧ lnF l = mxI (lnF f) (lnF g) ∧ lnT l = mnI (lnT f) (lnT g) ∧ l = (mxI (lnF f) (lnF g), mnI (lnT f) (lnT g), lnA f * lnC g + lnA g * lnC f, lnB f * lnC g + lnB g * lnC f, lnC f * lnC g) := by
  unfold suL at e
  split at e
  · rename_i c
    have e := Option.some.inj e
    have m1 := mx_ge (lnF f) (lnF g)
    have m2 := mx_ge (lnT f) (lnT g)
    have eF : lnF l = mxI (lnF f) (lnF g) := by rw [← e]; rfl
    have eT : lnT l = mnI (lnT f) (lnT g) := by rw [← e]; rfl
    exact ⟨by omega, by omega, by omega, by omega, by omega, eF, eT, e.symm⟩
  · cases e
theorem su_pw {fs gs : List Ln} (pf : fs.Pairwise (fun p q => lnT p ≤ lnF q)) (pg : gs.Pairwise (fun p q => lnT p ≤ lnF q)) : (suM fs gs).Pairwise (fun p q => lnT p ≤ lnF q) := by
  unfold suM
  rw [List.pairwise_flatMap]
  refine ⟨fun f hf => ?_, pf.imp (fun {f1 f2} hp x hx y hy => ?_)⟩
  · rw [List.pairwise_filterMap]
    refine pg.imp (fun {g1 g2} hp x hx y hy => ?_)
    have a := su_ends hx
    have b := su_ends hy
    omega
  · obtain ⟨g1, _, e1⟩ := List.mem_filterMap.mp hx
    obtain ⟨g2, _, e2⟩ := List.mem_filterMap.mp hy
    have a := su_ends e1
    have b := su_ends e2
    omega
theorem fm_le12 {α β : Type} {f : α → List β} {c : Nat} : ∀ (l : List α), (∀ a ∈ l, (f a).length ≤ c) → (l.flatMap f).length ≤ l.length * c := by
  intro l
  induction l with
  | nil => intro _; exact Nat.zero_le _
  | cons a l ih =>
    intro hh
    rw [List.flatMap_cons, List.length_append, List.length_cons, Nat.succ_mul]
    have := hh a List.mem_cons_self
    have := ih (fun x hx => hh x (List.mem_cons_of_mem _ hx))
    omega
theorem su_len {fs gs : List Ln} (hf : fs.length ≤ 12) (hg : gs.length ≤ 12) : (suM fs gs).length ≤ 144 := by
  have := fm_le12 (c := 12) (f := fun f => gs.filterMap (suL f)) fs (fun f _ => Nat.le_trans (List.length_filterMap_le _ _) hg)
  unfold suM
  omega
def LnS (l : Ln) : Prop := LBd 564537600 23760 23760 l ∧ (-5940 ≤ lnF l ∧ lnF l ≤ 5940) ∧ (-5940 ≤ lnT l ∧ lnT l ≤ 5940)
theorem su_bd {fs gs : List Ln} (hf : ∀ l ∈ fs, LnS l) (hg : ∀ l ∈ gs, LnS l) : ∀ l ∈ suM fs gs, LBd 26826826752000 1129075200 564537600 l ∧ (-5940 ≤ lnF l ∧ lnF l ≤ 5940) ∧ (-5940 ≤ lnT l ∧ lnT l ≤ 5940) ∧ lnF l ≤ lnT l := by
  intro l hl
  unfold suM at hl
  obtain ⟨f, hf1, hl⟩ := List.mem_flatMap.mp hl
  obtain ⟨g, hg1, e⟩ := List.mem_filterMap.mp hl
  obtain ⟨⟨a1, a2, a3, a4⟩, a5, a6⟩ := hf f hf1
  obtain ⟨⟨b1, b2, b3, b4⟩, b5, b6⟩ := hg g hg1
  obtain ⟨e1, e2, e3, e4, e5, e6, e7, e8⟩ := su_ends e
  have cf : -23760 ≤ lnC f ∧ lnC f ≤ 23760 := ⟨by omega, a4⟩
  have cg : -23760 ≤ lnC g ∧ lnC g ≤ 23760 := ⟨by omega, b4⟩
  have m1 := mul_b (M := 564537600) (N := 23760) a1 cg
  have m2 := mul_b (M := 564537600) (N := 23760) b1 cf
  have m3 := mul_b (M := 23760) (N := 23760) a2 cg
  have m4 := mul_b (M := 23760) (N := 23760) b2 cf
  have m5 := mul_b (M := 23760) (N := 23760) cf cg
  have m6 := Int.mul_pos a3 b3
  have eA : lnA l = lnA f * lnC g + lnA g * lnC f := by rw [e8]; rfl
  have eB : lnB l = lnB f * lnC g + lnB g * lnC f := by rw [e8]; rfl
  have eC : lnC l = lnC f * lnC g := by rw [e8]; rfl
  refine ⟨⟨⟨by omega, by omega⟩, ⟨by omega, by omega⟩, by omega, by omega⟩, ⟨by omega, by omega⟩, ⟨by omega, by omega⟩, e5⟩
theorem can_s {ks : List Kn} (C : Can ks) : ((spL ks).map lby).length ≤ 12 ∧ (∀ l ∈ (spL ks).map lby, LnB l) ∧ (∀ l ∈ (spL ks).map lby, LnS l) ∧ ((spL ks).map lby).Pairwise (fun p q => lnT p ≤ lnF q) := by
  have c1 := can_ln C
  refine ⟨c1.1, c1.2, fun l hl => ?_, ?_⟩
  · obtain ⟨p, hp, e⟩ := List.mem_map.mp hl
    have b := lby_b ((can_sb C).2 p hp)
    obtain ⟨s1, s2, s3, s4, s5⟩ := sp_b32 C.1.2.1 C.1.2.2 p hp
    have ee := lby_ends p
    rw [← e]
    exact ⟨b.1, by omega, by omega⟩
  · rw [List.pairwise_map]
    refine (sp_pw C.1.2.2).imp (fun {a b} hab => ?_)
    rw [(lby_ends _).2, (lby_ends _).1]
    exact hab
theorem su_lok {ks ks' : List Kn} (C : Can ks) (C' : Can ks') : LOk 26826826752000 1129075200 564537600 5940 1 (lnn (suM ((spL ks).map lby) ((spL ks').map lby))) (suM ((spL ks).map lby) ((spL ks').map lby)).length := by
  have c1 := can_s C
  have c2 := can_s C'
  have b := su_bd c1.2.2.1 c2.2.2.1
  exact disN_lok (by have := su_len c1.1 c2.1; omega) (su_pw c1.2.2.2 c2.2.2.2) (fun l hl => ⟨(b l hl).1, (b l hl).2.1, (b l hl).2.2.1⟩) ⟨by decide, by decide, by decide, by decide⟩ (by decide)
theorem su_co {ks ks' : List Kn} (C : Can ks) (C' : Can ks') : CO 26826826752000 1129075200 564537600 5940 5940 1 (lnn (suM ((spL ks).map lby) ((spL ks').map lby))) (suM ((spL ks).map lby) ((spL ks').map lby)).length 288 := by
  have c1 := can_s C
  have c2 := can_s C'
  exact disN_co (by have := su_len c1.1 c2.1; omega) (su_pw c1.2.2.2 c2.2.2.2) (su_bd c1.2.2.1 c2.2.2.1) ⟨by decide, by decide, by decide, by decide⟩ (by decide)
