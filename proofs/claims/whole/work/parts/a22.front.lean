/-! A LONE KNOT AT A LINE'S BEGIN tells nothing new; HULLS: bounds -/
theorem paper_cg {L L' : Nat → Ln} {n n' : Nat} {ks : List Kn} (hk : ∀ x k, KA L n x k ↔ KA L' n' x k) (h : PaperIs L n ks) : PaperIs L' n' ks := by
  obtain ⟨xs, f, p1, p2, p3, e⟩ := h
  exact ⟨xs, f, p1, fun x k ka ne => p2 x k ((hk x k).mpr ka) ne, fun x hx => (hk _ _).mp (p3 x hx), e⟩
section FT
variable {l0 : Ln} {ls : List Ln} {sd : Bool} {x : Rat}
theorem lnn_s (k : Nat) : lnn (l0 :: ls) (k + 1) = lnn ls k := rfl
theorem bt_sh {o m : Nat} : bt (lnn (l0 :: ls)) sd x (o + 1) (m + 1) ↔ bt (lnn ls) sd x o m := by
  unfold bt
  rw [lnn_s, lnn_s, Nat.add_lt_add_iff_right]
theorem lv_sh {m : Nat} : lv (lnn (l0 :: ls)) sd x (m + 1) ↔ lv (lnn ls) sd x m := Iff.rfl
theorem lv_z (h0 : lnF l0 = lnT l0) : ¬ lv (lnn (l0 :: ls)) sd x 0 := fun z => by
  have z1 : bey sd x (lnF l0) := z.1
  have z2 : ¬ bey sd x (lnT l0) := z.2
  rw [h0] at z1
  exact z2 z1
theorem low_sh (h0 : lnF l0 = lnT l0) {n o : Nat} : Low (lnn (l0 :: ls)) (n + 1) sd x (o + 1) ↔ Low (lnn ls) n sd x o := by
  constructor
  · intro h
    exact ⟨by have := h.1; omega, h.2.1, fun m hm hv ne => bt_sh.mp (h.2.2 (m + 1) (by omega) hv (by omega))⟩
  · intro h
    refine ⟨by have := h.1; omega, h.2.1, fun m hm hv ne => ?_⟩
    cases m with
    | zero => exact absurd hv (lv_z h0)
    | succ m => exact bt_sh.mpr (h.2.2 m (by omega) hv (by omega))
theorem sd_sh (h0 : lnF l0 = lnT l0) {n : Nat} {a : Option (Rat × Rat)} (h : Sd (lnn ls) n sd x a) : Sd (lnn (l0 :: ls)) (n + 1) sd x a := by
  cases a with
  | none =>
    intro o ho
    cases o with
    | zero => exact lv_z h0 ho.2.1
    | succ o => exact h o ((low_sh h0).mp ho)
  | some u =>
    obtain ⟨o, ho, e⟩ := h
    exact ⟨o + 1, (low_sh h0).mpr ho, e⟩
theorem ka_front (h0 : lnF l0 = lnT l0) (hno : ∀ k, k < ls.length → lnF (lnn ls k) < lnT (lnn ls k)) {j : Nat} (hj : j < ls.length) (hjF : lnF (lnn ls j) = lnF l0) (hv : vl (lnn ls j) (lnF l0 : Rat) = vl l0 (lnF l0 : Rat)) {k : List Kn} (ka : KA (lnn ls) ls.length x k) : KA (lnn (l0 :: ls)) (ls.length + 1) x k := by
  obtain ⟨a, b, c, ha, hb, hc, e⟩ := ka
  have ec : c = none := by
    cases c with
    | none => rfl
    | some v =>
      obtain ⟨⟨m, hm, ⟨z1, z2⟩, _⟩, _⟩ := hc
      have := hno m hm
      have := Rat.intCast_inj.mp (z1.trans z2.symm)
      omega
  obtain ⟨c1, hc1⟩ := Sp_ex (lnn (l0 :: ls)) x (ls.length + 1)
  refine ⟨a, b, c1, sd_sh h0 ha, sd_sh h0 hb, hc1, ?_⟩
  rw [e, ec]
  cases c1 with
  | none => rfl
  | some v =>
    obtain ⟨⟨m, hm, ⟨z1, z2⟩, ev0⟩, _⟩ := hc1
    have m0 : m = 0 := by
      cases m with
      | zero => rfl
      | succ m =>
        exfalso
        have z1 : (lnF (lnn ls m) : Rat) = x := z1
        have z2 : (lnT (lnn ls m) : Rat) = x := z2
        have := hno m (by omega)
        have := Rat.intCast_inj.mp (z1.trans z2.symm)
        omega
    rw [m0] at z1 ev0
    have z1 : (lnF l0 : Rat) = x := z1
    have ev1 : v = vl l0 x := ev0
    have lj := hno j hj
    have lvj : lv (lnn ls) false x j := lvFf.mpr ⟨by rw [hjF, z1]; grind, by rw [← z1, ← hjF]; exact Rat.intCast_lt_intCast.mpr lj⟩
    cases b with
    | none =>
      exfalso
      obtain ⟨o, ho⟩ := Low_ex (L := lnn ls) hj lvj
      exact hb o ho
    | some w =>
      obtain ⟨o, ho, ew⟩ := hb
      have le := low_v ho hj lvj
      have w1 : w.1 = vl (lnn ls o) x := by rw [ew]
      rw [z1] at hv
      have hn : loneB a (some w) (some v) = false := by
        have d : decide (v < w.1) = false := decide_eq_false (by grind)
        unfold loneB
        simp only [d, Bool.and_false]
      have := kno_lone (x := x) (a := a) (b := some w) (c := some v)
      rw [hn, if_neg (by decide)] at this
      rw [this]
theorem paper_front (h0 : lnF l0 = lnT l0) (hno : ∀ k, k < ls.length → lnF (lnn ls k) < lnT (lnn ls k)) {j : Nat} (hj : j < ls.length) (hjF : lnF (lnn ls j) = lnF l0) (hv : vl (lnn ls j) (lnF l0 : Rat) = vl l0 (lnF l0 : Rat)) {ks : List Kn} (hp : PaperIs (lnn (l0 :: ls)) (l0 :: ls).length ks) : PaperIs (lnn ls) ls.length ks := by
  refine paper_cg (fun x k => ⟨fun z => ?_, fun z => ka_front h0 hno hj hjF hv z⟩) hp
  obtain ⟨k', hk'⟩ := KA_ex (lnn ls) ls.length x
  have := KA_one z (ka_front h0 hno hj hjF hv hk')
  rw [this]; exact hk'
end FT
section HB
variable {ks : List Kn}
theorem ChT.all {P : Pt2 → Prop} : ∀ {st : List Pt2}, ChT P st → ∀ v ∈ st, P v := by
  intro st
  induction st with
  | nil => intro _ v hv; exact absurd hv List.not_mem_nil
  | cons b r ih =>
    intro h v hv
    rcases List.mem_cons.mp hv with e | e
    · rw [e]; exact h.hd
    · cases r with
      | nil => exact absurd e List.not_mem_nil
      | cons a r => exact ih h.2.2.2.2 v e
def PtB (p : Pt2) : Prop := (-5940 ≤ p.1 ∧ p.1 ≤ 5940) ∧ (-5940 ≤ p.2 ∧ p.2 ≤ 5940)
theorem ptp_b (P : StP ks) {n : Nat} (hn : n ≤ ks.length) {p : Pt2} (h : PtP ks n p) : PtB p := by
  obtain ⟨k, hk, e⟩ := h
  rw [e]
  exact P.b (by omega)
theorem ed_b {P : Pt2 → Prop} (hP : ∀ p, P p → PtB p) : ∀ (wl : List Pt2) (v : Pt2), P v → ChW P (v :: wl) → (∀ s ∈ edL (v :: wl), SpB s ∧ s.1 < s.2.2.1) ∧ (edL (v :: wl)).length = wl.length := by
  intro wl
  induction wl with
  | nil => intro v _ _; exact ⟨fun s hs => absurd hs List.not_mem_nil, rfl⟩
  | cons w wl ih =>
    intro v hv h
    obtain ⟨a1, a2, a3, a4, a5⟩ := h
    obtain ⟨i1, i2⟩ := ih w a2 a5
    refine ⟨fun s hs => ?_, ?_⟩
    · rcases List.mem_cons.mp hs with e | e
      · obtain ⟨b1, b2⟩ := hP v hv
        obtain ⟨d1, d2⟩ := hP w a2
        subst e
        unfold SpB
        dsimp only
        exact ⟨⟨by omega, by omega, by omega, by omega, by omega⟩, a1⟩
      · exact i1 s e
    · show (edL (w :: wl)).length + 1 = wl.length + 1
      rw [i2]
theorem hul_ch (C : Can ks) : ChW (PtP ks ks.length) (hulS ks ks.length).reverse ∧ (hulS ks ks.length).length ≤ 12 ∧ ∀ v ∈ (hulS ks ks.length).reverse, PtP ks ks.length v := by
  obtain ⟨h1, h2, h3⟩ := hul_ok C.1.2.2 ks.length (Nat.le_refl _)
  exact ⟨ch_w h1 h2, by have := C.1.1; omega, fun v hv => h1.all v (List.mem_reverse.mp hv)⟩
theorem lone_b {v : Pt2} (h : PtB v) : SpB (v.1, v.2, v.1, v.2) := by
  obtain ⟨b1, b2⟩ := h
  unfold SpB
  dsimp only
  exact ⟨by omega, by omega, by omega, by omega, by omega⟩
theorem hulC_b (C : Can ks) : (hulC ks).length ≤ 31 ∧ ∀ s ∈ hulC ks, SpB s := by
  obtain ⟨c1, c2, c3⟩ := hul_ch C
  have len : (hulS ks ks.length).reverse.length ≤ 12 := by rw [List.length_reverse]; exact c2
  unfold hulC
  cases e : (hulS ks ks.length).reverse with
  | nil => exact ⟨by decide, fun s hs => absurd hs List.not_mem_nil⟩
  | cons v wl =>
    rw [e] at c1 c3 len
    have pv := c3 v List.mem_cons_self
    obtain ⟨i1, i2⟩ := ed_b (fun p hp => ptp_b C.1.2.1 (Nat.le_refl _) hp) wl v pv c1
    rw [List.length_cons] at len
    refine ⟨by show (edL (v :: wl)).length + 1 ≤ 31; omega, fun s hs => ?_⟩
    rcases List.mem_cons.mp hs with z | z
    · rw [z]; exact lone_b (ptp_b C.1.2.1 (Nat.le_refl _) pv)
    · exact (i1 s z).1
theorem hulM_b (C : Can ks) : (hulM ks).length ≤ 31 ∧ ∀ s ∈ hulM ks, SpB s := by
  obtain ⟨c1, c2, c3⟩ := hul_ch C
  have len : (hulS ks ks.length).reverse.length ≤ 12 := by rw [List.length_reverse]; exact c2
  unfold hulM
  cases e : (hulS ks ks.length).reverse with
  | nil => exact ⟨by decide, fun s hs => absurd hs List.not_mem_nil⟩
  | cons v wl =>
    rw [e] at c1 c3 len
    have pv := c3 v List.mem_cons_self
    cases wl with
    | nil =>
      refine ⟨by show 1 ≤ 31; decide, fun s hs => ?_⟩
      rcases List.mem_cons.mp hs with z | z
      · rw [z]; exact lone_b (ptp_b C.1.2.1 (Nat.le_refl _) pv)
      · exact absurd z List.not_mem_nil
    | cons w wl =>
      obtain ⟨i1, i2⟩ := ed_b (fun p hp => ptp_b C.1.2.1 (Nat.le_refl _) hp) (w :: wl) v pv c1
      rw [List.length_cons] at len
      exact ⟨by show (edL (v :: w :: wl)).length ≤ 31; omega, fun s hs => (i1 s hs).1⟩
theorem hul_eq (C : Can ks) {kk : List Kn} (hp : PaperIs (lnn ((hulC ks).map lby)) ((hulC ks).map lby).length kk) : PaperIs (lnn ((hulM ks).map lby)) ((hulM ks).map lby).length kk := by
  obtain ⟨c1, c2, c3⟩ := hul_ch C
  unfold hulC at hp
  unfold hulM
  cases e : (hulS ks ks.length).reverse with
  | nil =>
    rw [e] at hp
    exact hp
  | cons v wl =>
    rw [e] at c1 c3 hp
    have pv := c3 v List.mem_cons_self
    cases wl with
    | nil => exact hp
    | cons w wl =>
      obtain ⟨i1, i2⟩ := ed_b (fun p hp => ptp_b C.1.2.1 (Nat.le_refl _) hp) (w :: wl) v pv c1
      have hl : ∀ k, k < ((edL (v :: w :: wl)).map lby).length → lnF (lnn ((edL (v :: w :: wl)).map lby) k) < lnT (lnn ((edL (v :: w :: wl)).map lby) k) := fun k hk => by
        obtain ⟨s, hs, es⟩ := List.mem_map.mp (List.mem_of_getElem? (lnn_at hk))
        rw [← es, (lby_ends s).1, (lby_ends s).2]
        exact (i1 s hs).2
      have f0 : lnn ((edL (v :: w :: wl)).map lby) 0 = lby (v.1, v.2, w.1, w.2) := rfl
      have a1 : v.1 < w.1 := c1.1
      have e0 : lnF (lby (v.1, v.2, v.1, v.2)) = v.1 := (lby_ends _).1
      refine paper_front (l0 := lby (v.1, v.2, v.1, v.2)) (ls := (edL (v :: w :: wl)).map lby) (j := 0) (e0.trans (show lnT (lby (v.1, v.2, v.1, v.2)) = v.1 from (lby_ends _).2).symm) hl (by rw [List.length_map, i2]; exact Nat.zero_lt_succ _) ?_ ?_ hp
      · rw [f0, (lby_ends _).1, e0]
      · rw [f0, e0, (lby_v1 (s := (v.1, v.2, w.1, w.2)) a1).1, lby_l.2.2]
end HB
