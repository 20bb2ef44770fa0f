/-! HOW MANY KNOTS: charged to pieces, begins and ends of chains, lone ones -/
section CG
variable {L : Nat → Ln} {n : Nat} {x : Rat}
theorem low_v {sd : Bool} {o m : Nat} (h : Low L n sd x o) (hm : m < n) (hv : lv L sd x m) : vl (L o) x ≤ vl (L m) x := by
  by_cases e : m = o
  · rw [e]; grind
  · have b := h.2.2 m hm hv e
    unfold bt at b
    grind
theorem right_new {ps : List Pie} {m : Nat} (he : EnvN L n ps) (hm : Low L n false x m) (hn : ¬ Low L n true x m) : x ∈ ps.map (fun q => q.1) := by
  obtain ⟨q, hq, e, b1, b2⟩ := (he.2 false x m).mpr hm
  unfold bey at b1 b2
  simp only [Bool.false_eq_true, if_false] at b1 b2
  by_cases c : q.1 = x
  · exact List.mem_map.mpr ⟨q, hq, c⟩
  · exfalso
    refine hn ((he.2 true x m).mp ⟨q, hq, e, ?_, ?_⟩)
    · unfold bey; rw [if_pos rfl]; grind
    · unfold bey; rw [if_pos rfl]; grind
theorem kn_charge {ps : List Pie} {ks : List Kn} {Bg En Lo : List Rat} (he : EnvN L n ps) (hE : ∀ o, o < n → lnF (L o) < lnT (L o) → (lnT (L o) : Rat) ∈ En ∨ ∃ o', o' < n ∧ lnF (L o') = lnT (L o) ∧ lnF (L o') < lnT (L o') ∧ vl (L o') (lnT (L o) : Rat) = vl (L o) (lnT (L o) : Rat)) (hB : ∀ o, o < n → lnF (L o) < lnT (L o) → (lnF (L o) : Rat) ∈ Bg ∨ ∃ o', o' < n ∧ lnT (L o') = lnF (L o) ∧ lnF (L o') < lnT (L o') ∧ vl (L o') (lnF (L o) : Rat) = vl (L o) (lnF (L o) : Rat)) (hL : ∀ o, o < n → lnF (L o) = lnT (L o) → (lnF (L o) : Rat) ∈ Bg ∧ (lnF (L o) : Rat) ∈ En ∧ (lnF (L o) : Rat) ∈ Lo) (ka : KA L n x ks) : ks.length ≤ (if x ∈ ps.map (fun q => q.1) then 1 else 0) + ((if x ∈ Bg then 1 else 0) + ((if x ∈ En then 1 else 0) + (if x ∈ Lo then 1 else 0))) := by
  obtain ⟨a, b, c, ha, hb, hc, e⟩ := ka
  have icl : ∀ {u v : Int}, (u : Rat) < (v : Rat) → u < v := fun h => Rat.intCast_lt_intCast.mp h
  have icr : ∀ {u v : Int}, u < v → (u : Rat) < (v : Rat) := fun h => Rat.intCast_lt_intCast.mpr h
  have ici : ∀ {u v : Int}, (u : Rat) = (v : Rat) → u = v := fun h => Rat.intCast_inj.mp h
  cases el : loneB a b c with
  | true =>
    have l3 : ks.length ≤ 3 := by rw [e]; exact kno_3
    cases c with
    | none => cases el
    | some v =>
      obtain ⟨⟨k, hk, ⟨z1, z2⟩, _⟩, _⟩ := hc
      obtain ⟨b1, b2, b3⟩ := hL k hk (ici (z1.trans z2.symm))
      rw [z1] at b1 b2 b3
      rw [if_pos b1, if_pos b2, if_pos b3]
      omega
  | false =>
    have ek : ks = if meetsB a b = true then (if strB a b = true then [] else (b.map (fun w => ((x, w.1, true) : Kn))).toList) else (a.map (fun u => ((x, u.1, false) : Kn))).toList ++ (b.map (fun w => ((x, w.1, true) : Kn))).toList := by
      rw [e]; unfold kno; rw [el]
      simp
    -- the left line ends here, or goes on
    have left_end : ∀ o, Low L n true x o → (∀ m, m < n → lv L false x m → vl (L o) x < vl (L m) x) → x ∈ En := by
      intro o ho hr
      have l1 := lvt.mp ho.2.1
      have ex : x = (lnT (L o) : Rat) := by
        by_cases c1 : x < (lnT (L o) : Rat)
        · have := hr o ho.1 (lvFf.mpr ⟨by grind, c1⟩)
          grind
        · grind
      have lv1 : lnF (L o) < lnT (L o) := icl (by rw [← ex]; exact l1.1)
      rcases hE o ho.1 lv1 with z | ⟨o', h1, h2, h3, h4⟩
      · rw [ex]; exact z
      · exfalso
        rw [← ex] at h4
        have := hr o' h1 (lvFf.mpr ⟨by rw [h2, ex]; grind, by rw [ex, ← h2]; exact icr h3⟩)
        rw [h4] at this
        grind
    have right_beg : ∀ m, Low L n false x m → (∀ o, o < n → lv L true x o → vl (L m) x < vl (L o) x) → x ∈ Bg := by
      intro m hm hr
      have l1 := lvFf.mp hm.2.1
      have ex : x = (lnF (L m) : Rat) := by
        by_cases c1 : (lnF (L m) : Rat) < x
        · have := hr m hm.1 (lvt.mpr ⟨c1, by grind⟩)
          grind
        · grind
      have lv1 : lnF (L m) < lnT (L m) := icl (by rw [← ex]; exact l1.2)
      rcases hB m hm.1 lv1 with z | ⟨o', h1, h2, h3, h4⟩
      · rw [ex]; exact z
      · exfalso
        rw [← ex] at h4
        have := hr o' h1 (lvt.mpr ⟨by rw [ex, ← h2]; exact icr h3, by rw [h2, ex]; grind⟩)
        rw [h4] at this
        grind
    cases a with
    | none =>
      cases b with
      | none =>
        rw [ek]
        exact Nat.zero_le _
      | some w =>
        obtain ⟨m, hm, ew⟩ := hb
        have pb := right_new he hm (ha m)
        have e1 : ks = [(x, w.1, true)] := ek
        rw [e1, if_pos pb]
        show 1 ≤ _
        omega
    | some u =>
      obtain ⟨o, ho, eu⟩ := ha
      cases b with
      | none =>
        have en := left_end o ho (fun m hm hv => by
          obtain ⟨o', ho'⟩ := Low_ex (L := L) hm hv
          exact absurd ho' (hb o'))
        have e1 : ks = [(x, u.1, false)] := ek
        rw [e1, if_pos en]
        show 1 ≤ _
        omega
      | some w =>
        obtain ⟨m, hm, ew⟩ := hb
        have same : Low L n true x m → u = w := fun z => by rw [eu, ew, Low_one z ho]
        by_cases c1 : u.1 = w.1
        · have mt : meetsB (some u) (some w) = true := decide_eq_true c1
          rw [mt, if_pos rfl] at ek
          by_cases c2 : u.2 = w.2
          · have st : strB (some u) (some w) = true := decide_eq_true c2
            rw [st, if_pos rfl] at ek
            rw [ek]
            exact Nat.zero_le _
          · have st : strB (some u) (some w) = false := decide_eq_false c2
            rw [st, if_neg (by decide)] at ek
            have pb := right_new he hm (fun z => c2 (by rw [same z]))
            have e1 : ks = [(x, w.1, true)] := ek
            rw [e1, if_pos pb]
            show 1 ≤ _
            omega
        · have mt : meetsB (some u) (some w) = false := decide_eq_false c1
          rw [mt, if_neg (by decide)] at ek
          have pb := right_new he hm (fun z => c1 (by rw [same z]))
          have e1 : ks = [(x, u.1, false), (x, w.1, true)] := ek
          have u1 : u.1 = vl (L o) x := by rw [eu]
          have w1 : w.1 = vl (L m) x := by rw [ew]
          rw [e1, if_pos pb]
          show 2 ≤ _
          by_cases c2 : u.1 < w.1
          · have en := left_end o ho (fun m' hm' hv => by
              have := low_v hm hm' hv
              grind)
            rw [if_pos en]; omega
          · have bg := right_beg m hm (fun o' ho' hv => by
              have := low_v ho ho' hv
              grind)
            rw [if_pos bg]; omega
def flen (Z xs : List Rat) : Nat := (xs.filter (fun x => decide (x ∈ Z))).length
theorem flen_c (Z : List Rat) (a : Rat) (xs : List Rat) : flen Z (a :: xs) = (if a ∈ Z then 1 else 0) + flen Z xs := by
  unfold flen
  rw [List.filter_cons]
  by_cases c : a ∈ Z
  · rw [if_pos (decide_eq_true c), if_pos c, List.length_cons]; omega
  · rw [if_neg (by rw [decide_eq_false c]; decide), if_neg c]; omega
theorem flen_le {Z xs : List Rat} (pw : xs.Pairwise (fun a b => a < b)) : flen Z xs ≤ Z.length := nd_sub (pw.sublist List.filter_sublist) (fun x hx => of_decide_eq_true (List.mem_filter.mp hx).2)
theorem flat_4 {f : Rat → List Kn} {Z1 Z2 Z3 Z4 : List Rat} : ∀ (xs : List Rat), (∀ x ∈ xs, (f x).length ≤ (if x ∈ Z1 then 1 else 0) + ((if x ∈ Z2 then 1 else 0) + ((if x ∈ Z3 then 1 else 0) + (if x ∈ Z4 then 1 else 0)))) → (xs.flatMap f).length ≤ flen Z1 xs + (flen Z2 xs + (flen Z3 xs + flen Z4 xs)) := by
  intro xs
  induction xs with
  | nil => intro _; exact Nat.zero_le _
  | cons a xs ih =>
    intro h
    rw [List.flatMap_cons, List.length_append, flen_c, flen_c, flen_c, flen_c]
    have := h a List.mem_cons_self
    have := ih (fun x hx => h x (List.mem_cons_of_mem _ hx))
    omega
theorem knots_ch {ks : List Kn} {Bg En Lo : List Rat} {B : Nat} (hE : ∀ o, o < n → lnF (L o) < lnT (L o) → (lnT (L o) : Rat) ∈ En ∨ ∃ o', o' < n ∧ lnF (L o') = lnT (L o) ∧ lnF (L o') < lnT (L o') ∧ vl (L o') (lnT (L o) : Rat) = vl (L o) (lnT (L o) : Rat)) (hB : ∀ o, o < n → lnF (L o) < lnT (L o) → (lnF (L o) : Rat) ∈ Bg ∨ ∃ o', o' < n ∧ lnT (L o') = lnF (L o) ∧ lnF (L o') < lnT (L o') ∧ vl (L o') (lnF (L o) : Rat) = vl (L o) (lnF (L o) : Rat)) (hL : ∀ o, o < n → lnF (L o) = lnT (L o) → (lnF (L o) : Rat) ∈ Bg ∧ (lnF (L o) : Rat) ∈ En ∧ (lnF (L o) : Rat) ∈ Lo) (hP : ∀ ps, EnvN L n ps → ps.length ≤ B) (hp : PaperIs L n ks) : ks.length ≤ B + (Bg.length + (En.length + Lo.length)) := by
  obtain ⟨xs, f, pw, _, hk, rfl⟩ := hp
  have he := layN_env L n
  have hb := hP _ he
  have f4 := flat_4 (f := f) (Z1 := (layN L n).map (fun q => q.1)) (Z2 := Bg) (Z3 := En) (Z4 := Lo) xs (fun x hx => kn_charge he hE hB hL (hk x hx))
  have p1 := flen_le (Z := (layN L n).map (fun q => q.1)) pw
  have p2 := flen_le (Z := Bg) pw
  have p3 := flen_le (Z := En) pw
  have p4 := flen_le (Z := Lo) pw
  rw [List.length_map] at p1
  omega
end CG
