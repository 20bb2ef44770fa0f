/-! WHERE THE KNOTS OF A PAPER LIE -/
section KB
variable {L : Nat → Ln} {n : Nat} {x : Rat}
theorem lvFf {k : Nat} : lv L false x k ↔ ((lnF (L k) : Rat) ≤ x ∧ x < (lnT (L k) : Rat)) := by
  unfold lv bey
  simp only [Bool.false_eq_true, if_false]
  constructor
  · intro z; exact ⟨z.1, by have := z.2; grind⟩
  · intro z; exact ⟨z.1, by have := z.2; grind⟩
theorem kn_cross {ks : List Kn} (ka : KA L n x ks) (ne : ks ≠ []) (he : ∀ m, m < n → (lnF (L m) : Rat) ≠ x ∧ (lnT (L m) : Rat) ≠ x) : ∃ o m, o < n ∧ m < n ∧ o ≠ m ∧ (∃ sd x, lv L sd x o ∧ lv L sd x m) ∧ sl (L o) - sl (L m) ≠ 0 ∧ x = cr L o m := by
  obtain ⟨a, b, c, ha, hb, hc, e⟩ := ka
  have hl : ∀ k, k < n → (lv L true x k ↔ lv L false x k) := fun k hk => by
    rw [lvt, lvFf]
    have := he k hk
    grind
  have ec : c = none := by
    cases c with
    | none => rfl
    | some v => obtain ⟨⟨k, hk, hl, _⟩, _⟩ := hc; exact absurd hl.1 (he k hk).1
  cases a with
  | none =>
    exfalso
    have eb : b = none := by
      cases b with
      | none => rfl
      | some w =>
        obtain ⟨o, ho, _⟩ := hb
        obtain ⟨o', ho'⟩ := Low_ex (L := L) ho.1 ((hl o ho.1).mpr ho.2.1)
        exact absurd ho' (ha o')
    rw [eb, ec] at e
    exact ne (by rw [e]; rfl)
  | some u =>
    obtain ⟨o, ho, eu⟩ := ha
    cases b with
    | none =>
      exfalso
      obtain ⟨o', ho'⟩ := Low_ex (L := L) ho.1 ((hl o ho.1).mp ho.2.1)
      exact absurd ho' (hb o')
    | some w =>
      obtain ⟨m, hm, ew⟩ := hb
      have lo : lv L false x o := (hl o ho.1).mp ho.2.1
      have lm : lv L true x m := (hl m hm.1).mpr hm.2.1
      have uw : u ≠ w := fun uw => by
        rw [uw, ec] at e
        exact ne (by rw [e]; unfold kno; simp [loneB, meetsB, strB])
      by_cases om : o = m
      · exact absurd (by rw [eu, ew, om]) uw
      · have b1 := ho.2.2 m hm.1 lm (Ne.symm om)
        have b2 := hm.2.2 o ho.1 lo om
        have ve : vl (L o) x = vl (L m) x := by
          unfold bt at b1 b2
          grind
        have ns : sl (L o) ≠ sl (L m) := fun z => uw (by rw [eu, ew, ve, z])
        have ns2 : sl (L o) - sl (L m) ≠ 0 := by grind
        refine ⟨o, m, ho.1, hm.1, om, ⟨true, x, ho.2.1, lm⟩, ns2, ?_⟩
        unfold vl at ve
        unfold cr
        generalize sl (L o) = s1 at *
        generalize sl (L m) = s2 at *
        generalize ic (L o) = i1 at *
        generalize ic (L m) = i2 at *
        have e3 : i2 - i1 = x * (s1 - s2) := by grind
        rw [e3]
        grind
theorem kn_val {ks : List Kn} {q : Kn} (ka : KA L n x ks) (hq : q ∈ ks) : q.1 = x ∧ ∃ o, o < n ∧ q.2.1 = vl (L o) x := by
  obtain ⟨a, b, c, ha, hb, hc, e⟩ := ka
  rw [e] at hq
  refine ⟨kno_x q hq, ?_⟩
  cases g : q.2.2 with
  | true =>
    obtain ⟨w, ew, e2⟩ := kno_true hq g
    rw [ew] at hb
    obtain ⟨o, ho, e3⟩ := hb
    exact ⟨o, ho.1, by rw [e2, e3]⟩
  | false =>
    rcases kno_false hq g with ⟨u, eu, e2⟩ | ⟨_, v, ev0, e2⟩
    · rw [eu] at ha
      obtain ⟨o, ho, e3⟩ := ha
      exact ⟨o, ho.1, by rw [e2, e3]⟩
    · rw [ev0] at hc
      obtain ⟨⟨k, hk, _, e3⟩, _⟩ := hc
      exact ⟨k, hk, by rw [e2, e3]⟩
theorem lok_pab {MA MB MC NP NQ : Int} {ks : List Kn} (lo : LOk MA MB MC NP NQ L n) (h1 : MC * NQ ≤ 70000000000000000) (h2 : NQ ≤ 70000000000000000) (hp : PaperIs L n ks) : PaB ks := by
  have h16 := lo.2.2.2.2.2.2.2 ks hp
  obtain ⟨xs, f, pw, hin, hk, ek⟩ := hp
  refine ⟨h16, fun q hq => ?_⟩
  rw [ek] at hq
  obtain ⟨x, hx, hq⟩ := List.mem_flatMap.mp hq
  have ka := hk x hx
  have ne : f x ≠ [] := fun e => by rw [e] at hq; exact absurd hq List.not_mem_nil
  obtain ⟨e1, o, ho, e2⟩ := kn_val ka hq
  have px : Pt NP NQ x := by
    by_cases c : ∃ m, m < n ∧ ((lnF (L m) : Rat) = x ∨ (lnT (L m) : Rat) = x)
    · obtain ⟨m, hm, z⟩ := c
      have b := lo.2.2.2.2.1 m hm
      rcases z with z | z
      · rw [← z]; exact b.2.2.1
      · rw [← z]; exact b.2.2.2
    · obtain ⟨o, m, ho, hm, om, ⟨sd, y, l1, l2⟩, ns, ex⟩ := kn_cross ka ne (fun m hm => ⟨fun z => c ⟨m, hm, Or.inl z⟩, fun z => c ⟨m, hm, Or.inr z⟩⟩)
      have co := (lo.2.2.2.1 o ho).2.2.1
      have cm := (lo.2.2.2.1 m hm).2.2.1
      by_cases d : m < o
      · rw [ex]; exact cr_pt co cm ns (lo.2.2.2.2.2.1 o m d ho ⟨sd, y, l1, l2⟩)
      · rw [ex, cr_sy]
        exact cr_pt cm co (by grind) (lo.2.2.2.2.2.1 m o (by omega) hm ⟨sd, y, l2, l1⟩)
  have bd0 := lo.2.2.2.1 o ho
  obtain ⟨k1, k2, k3, k4⟩ := lo.1
  have dp := den_p x
  have m1 := mul_b bd0.1 px.dp
  have m2 := mul_b bd0.2.1 (show -NP ≤ x.num ∧ x.num ≤ NP from ⟨px.1, px.2.1⟩)
  have m3 := mul_b (show -MC ≤ lnC (L o) ∧ lnC (L o) ≤ MC from ⟨by have := bd0.2.2.1; have := bd0.2.2.2; omega, bd0.2.2.2⟩) px.dp
  have hne : lnC (L o) * (x.den : Int) ≠ 0 := Int.mul_ne_zero (by have := bd0.2.2.1; omega) (by omega)
  have t := low_terms (a := lnA (L o) * x.den + lnB (L o) * x.num) hne
  rw [e1, e2, ← vl_frac bd0.2.2.1 x, t.1, t.2]
  have t1 := tdiv_b (M := 4611686018427387904) (d := (Int.gcd (lnA (L o) * x.den + lnB (L o) * x.num) (lnC (L o) * x.den) : Int)) (a := lnA (L o) * x.den + lnB (L o) * x.num) (by omega)
  refine ⟨⟨by have := px.1; omega, by have := px.2.1; omega⟩, by have := px.2.2; omega, ⟨(tdiv_b _ (by omega)).1, (tdiv_b _ (by omega)).2⟩, (tdiv_b _ (by omega)).2⟩
theorem few_pab {sps : List Spn} {ks : List Kn} (hl : sps.length ≤ 31) (hb : ∀ p ∈ sps, SpB p) (hp : PaperIs (lnn (sps.map lby)) (sps.map lby).length ks) : PaB ks := lok_pab (few_lok hl hb) (by decide) (by decide) hp
end KB
