/-! READ, pure: what was told is a store, and so is its paper -/
section TD
variable {ks0 : List Kn}
theorem own_pw (F : StF ks0) : ((spL ks0).map lby).Pairwise (fun p q => lnT p ≤ lnF q) := by
  rw [List.pairwise_map]
  refine (sp_pw F).imp (fun {a b} hab => ?_)
  rw [(lby_ends _).2, (lby_ends _).1]
  exact hab
theorem own_le (P : StP ks0) (F : StF ks0) {m : Nat} (hm : m < (spL ks0).length) : lnF (ownL ks0 m) ≤ lnT (ownL ks0 m) := by
  have hm2 : m < ((spL ks0).map lby).length := by rw [List.length_map]; exact hm
  obtain ⟨p, hp, e⟩ := List.mem_map.mp (List.mem_of_getElem? (lnn_at hm2))
  have e : lby p = ownL ks0 m := e
  rw [← e, (lby_ends p).1, (lby_ends p).2]
  exact (sp_b32 P F p hp).2.2.2.2
theorem own_lv (F : StF ks0) {o m : Nat} (ho : o < (spL ks0).length) (hm : m < (spL ks0).length) (om : o ≠ m) {sd : Bool} {x : Rat} (h1 : lv (ownL ks0) sd x o) (h2 : lv (ownL ks0) sd x m) : False := by
  have l1 : ((spL ks0).map lby).length = (spL ks0).length := List.length_map _
  rcases Nat.lt_trichotomy o m with c | c | c
  · exact dis_lv (own_pw F) c (by omega) h2 h1
  · exact om c
  · exact dis_lv (own_pw F) c (by omega) h1 h2
theorem own_end (F : StF ks0) {x : Rat} {k : List Kn} (ka : KA (ownL ks0) (spL ks0).length x k) (ne : k ≠ []) : ∃ m, m < (spL ks0).length ∧ ((lnF (ownL ks0 m) : Rat) = x ∨ (lnT (ownL ks0 m) : Rat) = x) := by
  refine Classical.byContradiction (fun z => ?_)
  obtain ⟨o, m, ho, hm, om, ⟨sd, y, l1, l2⟩, _, _⟩ := kn_cross ka ne (fun m hm => ⟨fun e => z ⟨m, hm, Or.inl e⟩, fun e => z ⟨m, hm, Or.inr e⟩⟩)
  exact own_lv F ho hm om l1 l2
theorem own_in (P : StP ks0) (F : StF ks0) {x : Rat} {m o : Nat} (hm : m < (spL ks0).length) (ho : o < (spL ks0).length) (e : (lnF (ownL ks0 m) : Rat) = x ∨ (lnT (ownL ks0 m) : Rat) = x) (h1 : (lnF (ownL ks0 o) : Rat) < x) (h2 : x < (lnT (ownL ks0 o) : Rat)) : False := by
  have l1 : ((spL ks0).map lby).length = (spL ks0).length := List.length_map _
  have lm : (lnF (ownL ks0 m) : Rat) ≤ (lnT (ownL ks0 m) : Rat) := Rat.intCast_le_intCast.mpr (own_le P F hm)
  have pw : ∀ a b, a < b → b < (spL ks0).length → (lnT (ownL ks0 a) : Rat) ≤ (lnF (ownL ks0 b) : Rat) := fun a b hab hb => by
    have p := List.pairwise_iff_getElem.mp (own_pw F) a b (by omega) (by omega) hab
    rw [← lnn_ge (show a < ((spL ks0).map lby).length by omega), ← lnn_ge (show b < ((spL ks0).map lby).length by omega)] at p
    exact Rat.intCast_le_intCast.mpr p
  rcases Nat.lt_trichotomy o m with c | c | c
  · have := pw o m c hm
    rcases e with e | e <;> grind
  · rw [c] at h1 h2
    rcases e with e | e <;> grind
  · have := pw m o c ho
    rcases e with e | e <;> grind
/-- the told knot at a left end, a right begin, a lone place -/
theorem told_l (P : StP ks0) (F : StF ks0) {x : Rat} {k : List Kn} {u : Rat × Rat} (ka : KA (ownL ks0) (spL ks0).length x k) (ne : k ≠ []) (hu : Sd (ownL ks0) (spL ks0).length true x (some u)) : ∃ i, 0 < i ∧ i < ks0.length ∧ kg ks0 (i - 1) = true ∧ (kx ks0 i : Rat) = x ∧ u.1 = (ky ks0 i : Rat) := by
  obtain ⟨m, hm, hme⟩ := own_end F ka ne
  obtain ⟨o, ho, eu⟩ := hu
  have l1 := lvt.mp ho.2.1
  have ex : x = (lnT (ownL ks0 o) : Rat) := by
    by_cases c : x < (lnT (ownL ks0 o) : Rat)
    · exact absurd (own_in P F hm ho.1 hme l1.1 c) id
    · grind
  obtain ⟨i, hi, g, cv, el⟩ := ln_cut F ho.1 ho.2.1
  have f := F.2 i hi g
  have v1 := (lby_v1 (s := (kx ks0 i, ky ks0 i, kx ks0 (i + 1), ky ks0 (i + 1))) f.2).2
  have et : lnT (ownL ks0 o) = kx ks0 (i + 1) := by rw [el]; exact (lby_ends _).2
  refine ⟨i + 1, by omega, f.1, by rw [show i + 1 - 1 = i by omega]; exact g, by rw [ex, et], ?_⟩
  rw [eu]
  show vl (ownL ks0 o) x = _
  rw [ex, et, el]
  exact v1
theorem told_r (P : StP ks0) (F : StF ks0) {x : Rat} {k : List Kn} {w : Rat × Rat} (ka : KA (ownL ks0) (spL ks0).length x k) (ne : k ≠ []) (hu : Sd (ownL ks0) (spL ks0).length false x (some w)) : ∃ i, i < ks0.length ∧ kg ks0 i = true ∧ (kx ks0 i : Rat) = x ∧ w.1 = (ky ks0 i : Rat) := by
  obtain ⟨m, hm, hme⟩ := own_end F ka ne
  obtain ⟨o, ho, eu⟩ := hu
  have l1 := lvFf.mp ho.2.1
  have ex : x = (lnF (ownL ks0 o) : Rat) := by
    by_cases c : (lnF (ownL ks0 o) : Rat) < x
    · exact absurd (own_in P F hm ho.1 hme c l1.2) id
    · grind
  obtain ⟨i, hi, g, cv, el⟩ := ln_cut F ho.1 ho.2.1
  have f := F.2 i hi g
  have v1 := (lby_v1 (s := (kx ks0 i, ky ks0 i, kx ks0 (i + 1), ky ks0 (i + 1))) f.2).1
  have et : lnF (ownL ks0 o) = kx ks0 i := by rw [el]; exact (lby_ends _).1
  refine ⟨i, hi, g, by rw [ex, et], ?_⟩
  rw [eu]
  show vl (ownL ks0 o) x = _
  rw [ex, et, el]
  exact v1
theorem told_o (F : StF ks0) {x v : Rat} (hc : Sp (ownL ks0) (spL ks0).length x (some v)) : ∃ i, i < ks0.length ∧ kg ks0 i = false ∧ (i = 0 ∨ kg ks0 (i - 1) = false) ∧ (kx ks0 i : Rat) = x ∧ v = (ky ks0 i : Rat) := by
  obtain ⟨⟨m, hm, ⟨z1, z2⟩, ev0⟩, _⟩ := hc
  obtain ⟨i, sp, hi, e, el⟩ := own_of hm
  have zz := Rat.intCast_inj.mp (z1.trans z2.symm)
  rw [el, (lby_ends sp).1, (lby_ends sp).2] at zz
  unfold spO at e
  by_cases g : kg ks0 i = true
  · exfalso
    rw [if_pos g] at e
    have f := F.2 i hi g
    rw [← Option.some.inj e] at zz
    dsimp only at zz
    omega
  · rw [if_neg g] at e
    split at e
    · rename_i c
      have es := Option.some.inj e
      refine ⟨i, hi, by cases hh : kg ks0 i; rfl; exact absurd hh g, c, ?_, ?_⟩
      · rw [← z1, el, ← es, (lby_ends _).1]
      · rw [ev0, el, ← es, lby_l.2.2]
    · cases e
theorem told_stp (P : StP ks0) (F : StF ks0) {ks : List Kn} (hp : PaperIs (ownL ks0) (spL ks0).length ks) : StP ks := by
  intro q hq
  obtain ⟨k, ka, hqk⟩ := (paper_mem hp q).mp hq
  have ne : k ≠ [] := fun e => by rw [e] at hqk; exact absurd hqk List.not_mem_nil
  have fin : ∀ i, i < ks0.length → (kx ks0 i : Rat) = q.1 → q.2.1 = (ky ks0 i : Rat) → q.1.den = 1 ∧ q.2.1.den = 1 ∧ (-5940 ≤ q.1.num ∧ q.1.num ≤ 5940) ∧ (-5940 ≤ q.2.1.num ∧ q.2.1.num ≤ 5940) := by
    intro i hi e1 e2
    have b := P.b hi
    rw [← e1, e2]
    exact ⟨rfl, rfl, b.1, b.2⟩
  obtain ⟨a, b, c, ha, hb, hc, e⟩ := id ka
  rw [e] at hqk
  cases g : q.2.2 with
  | true =>
    obtain ⟨w, ew, e2⟩ := kno_true hqk g
    rw [ew] at hb
    obtain ⟨i, hi, _, e3, e4⟩ := told_r P F ka ne hb
    exact fin i hi e3 (by rw [e2]; exact e4)
  | false =>
    rcases kno_false hqk g with ⟨u, eu, e2⟩ | ⟨_, v, ev0, e2⟩
    · rw [eu] at ha
      obtain ⟨i, _, hi, _, e3, e4⟩ := told_l P F ka ne ha
      exact fin i hi e3 (by rw [e2]; exact e4)
    · rw [ev0] at hc
      obtain ⟨i, hi, _, _, e3, e4⟩ := told_o F hc
      exact fin i hi e3 (by rw [e2]; exact e4)
def atX (ks0 : List Kn) (x : Rat) : List Nat := (List.range ks0.length).filter (fun k => decide ((kx ks0 k : Rat) = x))
theorem in_atX {x : Rat} {i : Nat} (hi : i < ks0.length) (e : (kx ks0 i : Rat) = x) : i ∈ atX ks0 x := List.mem_filter.mpr ⟨List.mem_range.mpr hi, decide_eq_true e⟩
theorem kno_cnt (P : StP ks0) (F : StF ks0) {x : Rat} {k : List Kn} (ka : KA (ownL ks0) (spL ks0).length x k) : k.length ≤ (atX ks0 x).length := by
  by_cases ne : k = []
  · rw [ne]; exact Nat.zero_le _
  obtain ⟨a, b, c, ha, hb, hc, e⟩ := id ka
  have ici : ∀ {u v : Int}, (u : Rat) = (v : Rat) → u = v := fun h => Rat.intCast_inj.mp h
  have sub : ∀ l : List Nat, l.Nodup → (∀ i ∈ l, i < ks0.length ∧ (kx ks0 i : Rat) = x) → l.length ≤ (atX ks0 x).length := fun l nd hl => List.Nodup.length_le_of_subset nd (fun i hi => in_atX (hl i hi).1 (hl i hi).2)
  have nd1 : ∀ i : Nat, [i].Nodup := fun i => List.nodup_cons.mpr ⟨List.not_mem_nil, List.Pairwise.nil⟩
  have nd2 : ∀ i j : Nat, i ≠ j → [i, j].Nodup := fun i j h => List.nodup_cons.mpr ⟨fun z => h (List.mem_singleton.mp z), nd1 j⟩
  have nd3 : ∀ i j l : Nat, i ≠ j → i ≠ l → j ≠ l → [i, j, l].Nodup := fun i j l h1 h2 h3 => List.nodup_cons.mpr ⟨fun z => by
    rcases List.mem_cons.mp z with z | z
    · exact h1 z
    · exact h2 (List.mem_singleton.mp z), nd2 j l h3⟩
  have in1 : ∀ {i : Nat}, (i < ks0.length ∧ (kx ks0 i : Rat) = x) → ∀ j ∈ [i], j < ks0.length ∧ (kx ks0 j : Rat) = x := fun h j hj => by rw [List.mem_singleton.mp hj]; exact h
  have in2 : ∀ {i j : Nat}, (i < ks0.length ∧ (kx ks0 i : Rat) = x) → (j < ks0.length ∧ (kx ks0 j : Rat) = x) → ∀ l ∈ [i, j], l < ks0.length ∧ (kx ks0 l : Rat) = x := fun h1 h2 l hl => by
    rcases List.mem_cons.mp hl with z | z
    · rw [z]; exact h1
    · exact in1 h2 l z
  have in3 : ∀ {i j m : Nat}, (i < ks0.length ∧ (kx ks0 i : Rat) = x) → (j < ks0.length ∧ (kx ks0 j : Rat) = x) → (m < ks0.length ∧ (kx ks0 m : Rat) = x) → ∀ l ∈ [i, j, m], l < ks0.length ∧ (kx ks0 l : Rat) = x := fun h1 h2 h3 l hl => by
    rcases List.mem_cons.mp hl with z | z
    · rw [z]; exact h1
    · exact in2 h2 h3 l z
  cases el : loneB a b c with
  | true =>
    cases c with
    | none => cases el
    | some v =>
      obtain ⟨l, hl, gl, gl2, xl, _⟩ := told_o F hc
      have e1 : k = (a.map (fun u => ((x, u.1, false) : Kn))).toList ++ ([((x, v, false) : Kn)] ++ (b.map (fun w => ((x, w.1, true) : Kn))).toList) := by
        rw [e]; unfold kno; rw [el]; simp
      cases a with
      | none =>
        cases b with
        | none => rw [e1]; exact sub [l] (nd1 l) (in1 ⟨hl, xl⟩)
        | some w =>
          obtain ⟨r, hr, gr, xr, _⟩ := told_r P F ka ne hb
          rw [e1]
          exact sub [l, r] (nd2 l r (fun z => by rw [z, gr] at gl; cases gl)) (in2 ⟨hl, xl⟩ ⟨hr, xr⟩)
      | some u =>
        obtain ⟨i, i0, hi, gi, xi, _⟩ := told_l P F ka ne ha
        have il : i ≠ l := fun z => by
          rcases gl2 with q | q
          · omega
          · rw [← z, gi] at q; cases q
        cases b with
        | none => rw [e1]; exact sub [i, l] (nd2 i l il) (in2 ⟨hi, xi⟩ ⟨hl, xl⟩)
        | some w =>
          obtain ⟨r, hr, gr, xr, _⟩ := told_r P F ka ne hb
          have lr : l ≠ r := fun z => by rw [z, gr] at gl; cases gl
          have ir : i ≠ r := fun z => by
            have f1 := F.2 (i - 1) (by omega) gi
            have f2 := F.2 r hr gr
            rw [show i - 1 + 1 = i by omega] at f1
            have exl : kx ks0 l = kx ks0 i := ici (xl.trans xi.symm)
            rcases Nat.lt_trichotomy l i with q | q | q
            · have := F.1 l (i - 1) (by omega) (by omega); omega
            · exact il q.symm
            · have := F.1 (r + 1) l (by omega) hl
              rw [← z] at this f2
              omega
          rw [e1]
          exact sub [i, l, r] (nd3 i l r il ir lr) (in3 ⟨hi, xi⟩ ⟨hl, xl⟩ ⟨hr, xr⟩)
  | false =>
    have ek : k = if meetsB a b = true then (if strB a b = true then [] else (b.map (fun w => ((x, w.1, true) : Kn))).toList) else (a.map (fun u => ((x, u.1, false) : Kn))).toList ++ (b.map (fun w => ((x, w.1, true) : Kn))).toList := by
      rw [e]; unfold kno; rw [el]
      simp
    cases a with
    | none =>
      cases b with
      | none => rw [ek]; exact Nat.zero_le _
      | some w =>
        obtain ⟨r, hr, gr, xr, _⟩ := told_r P F ka ne hb
        have e1 : k = [(x, w.1, true)] := ek
        rw [e1]; exact sub [r] (nd1 r) (in1 ⟨hr, xr⟩)
    | some u =>
      obtain ⟨i, i0, hi, gi, xi, yi⟩ := told_l P F ka ne ha
      cases b with
      | none =>
        have e1 : k = [(x, u.1, false)] := ek
        rw [e1]; exact sub [i] (nd1 i) (in1 ⟨hi, xi⟩)
      | some w =>
        obtain ⟨r, hr, gr, xr, yr⟩ := told_r P F ka ne hb
        by_cases c1 : u.1 = w.1
        · have mt : meetsB (some u) (some w) = true := decide_eq_true c1
          rw [mt, if_pos rfl] at ek
          have l1 : k.length ≤ 1 := by
            rw [ek]
            split
            · exact Nat.zero_le _
            · exact Nat.le_refl _
          exact Nat.le_trans l1 (sub [r] (nd1 r) (in1 ⟨hr, xr⟩))
        · have mt : meetsB (some u) (some w) = false := decide_eq_false c1
          rw [mt, if_neg (by decide)] at ek
          have e1 : k = [(x, u.1, false), (x, w.1, true)] := ek
          rw [e1]
          exact sub [i, r] (nd2 i r (fun z => c1 (by rw [yi, yr, z]))) (in2 ⟨hi, xi⟩ ⟨hr, xr⟩)
theorem flt_two2 {P Q R : Nat → Bool} (h1 : ∀ k, P k = true → R k = true) (h2 : ∀ k, Q k = true → R k = true) (h3 : ∀ k, ¬ (P k = true ∧ Q k = true)) : ∀ l : List Nat, (l.filter P).length + (l.filter Q).length ≤ (l.filter R).length := by
  intro l
  induction l with
  | nil => exact Nat.le_refl _
  | cons a l ih =>
    rw [List.filter_cons, List.filter_cons, List.filter_cons]
    cases p : P a with
    | true =>
      have r := h1 a p
      have q : Q a = false := by
        cases hh : Q a with
        | false => rfl
        | true => exact absurd ⟨p, hh⟩ (h3 a)
      rw [q, r, if_pos rfl, if_neg (by decide), if_pos rfl, List.length_cons, List.length_cons]
      omega
    | false =>
      rw [if_neg (by decide)]
      cases q : Q a with
      | true =>
        rw [h2 a q, if_pos rfl, if_pos rfl, List.length_cons, List.length_cons]
        omega
      | false =>
        rw [if_neg (by decide)]
        split
        · rw [List.length_cons]; omega
        · exact ih
theorem told_len (P : StP ks0) (F : StF ks0) {ks : List Kn} (hp : PaperIs (ownL ks0) (spL ks0).length ks) : ks.length ≤ ks0.length := by
  obtain ⟨xs, f, pw, _, hk, rfl⟩ := hp
  have key : ∀ (xs : List Rat), xs.Pairwise (fun a b => a < b) → (∀ x ∈ xs, (f x).length ≤ (atX ks0 x).length) → (xs.flatMap f).length ≤ ((List.range ks0.length).filter (fun k => decide ((kx ks0 k : Rat) ∈ xs))).length := by
    intro xs
    induction xs with
    | nil => intro _ _; exact Nat.zero_le _
    | cons a xs ih =>
      intro pw hh
      have pw2 := List.pairwise_cons.mp pw
      rw [List.flatMap_cons, List.length_append]
      have i1 := ih pw2.2 (fun x hx => hh x (List.mem_cons_of_mem _ hx))
      have i2 := hh a List.mem_cons_self
      have i3 := flt_two2 (P := fun k => decide ((kx ks0 k : Rat) = a)) (Q := fun k => decide ((kx ks0 k : Rat) ∈ xs)) (R := fun k => decide ((kx ks0 k : Rat) ∈ a :: xs)) (fun k z => decide_eq_true (by rw [of_decide_eq_true z]; exact List.mem_cons_self)) (fun k z => decide_eq_true (List.mem_cons_of_mem _ (of_decide_eq_true z))) (fun k z => by
        have z1 := of_decide_eq_true z.1
        have z2 := of_decide_eq_true z.2
        have := pw2.1 _ z2
        rw [z1] at this
        grind) (List.range ks0.length)
      unfold atX at i2
      omega
  have := key xs pw (fun x hx => kno_cnt P F (hk x hx))
  have := List.length_filter_le (fun k => decide ((kx ks0 k : Rat) ∈ xs)) (List.range ks0.length)
  rw [List.length_range] at this
  omega
end TD
/-! told knots as a list -/
def mkK (s : TS) : List Kn := (List.range (tN s)).map (fun k => ((tX s k : Rat), (tY s k : Rat), tG s k))
section TL
variable {s : TS}
theorem mk_len (s : TS) : (mkK s).length = tN s := by unfold mkK; rw [List.length_map, List.length_range]
theorem mk_at {k : Nat} (hk : k < tN s) : kx (mkK s) k = tX s k ∧ ky (mkK s) k = tY s k ∧ kg (mkK s) k = tG s k := by
  have e : (mkK s)[k]? = some ((tX s k : Rat), (tY s k : Rat), tG s k) := by
    unfold mkK
    rw [List.getElem?_map, List.getElem?_range hk]; rfl
  unfold kx ky kg
  rw [e]
  exact ⟨rfl, rfl, rfl⟩
theorem mk_o (ok : TOk s) : StO (mkK s) := by
  obtain ⟨h1, h2, h3, h4⟩ := ok
  refine ⟨by rw [mk_len]; exact h1, fun q hq => ?_, fun i j hij hj => ?_, fun k hk hg => ?_⟩
  · unfold mkK at hq
    obtain ⟨k, hk, e⟩ := List.mem_map.mp hq
    rw [← e]
    exact ⟨rfl, rfl, (h2 k (List.mem_range.mp hk)).1, (h2 k (List.mem_range.mp hk)).2⟩
  · rw [mk_len] at hj
    rw [(mk_at (show i < tN s by omega)).1, (mk_at hj).1]
    induction j with
    | zero => rw [show i = 0 by omega]; omega
    | succ j ih =>
      by_cases c : i = j + 1
      · rw [c]; omega
      · have := ih (by omega) (by omega)
        have := h3 j hj
        omega
  · rw [mk_len] at hk
    rw [(mk_at hk).2.2] at hg
    have := h4 k hk hg
    rw [mk_len, (mk_at hk).1, (mk_at this.1).1]
    exact this
theorem mk_sp (ok : TOk s) : spL (mkK s) = fulT s := by
  unfold spL fulT
  rw [mk_len]
  refine fm_cg _ (fun k hk => ?_)
  unfold spO spF
  rw [(mk_at hk).2.2, (mk_at hk).1, (mk_at hk).2.1]
  by_cases g : tG s k = true
  · have f := ok.2.2.2 k hk g
    rw [if_pos g, if_pos g, (mk_at f.1).1, (mk_at f.1).2.1]
  · rw [if_neg g, if_neg g]
    by_cases c : k = 0
    · rw [if_pos (Or.inl c), if_pos (Or.inl c)]
    · rw [(mk_at (show k - 1 < tN s by omega)).2.2]
theorem ful_can (ok : TOk s) {ks : List Kn} (hp : PaperIs (lnn ((fulT s).map lby)) ((fulT s).map lby).length ks) : Can ks := by
  have O := mk_o ok
  have hp2 : PaperIs (ownL (mkK s)) (spL (mkK s)).length ks := by
    unfold ownL
    rw [mk_sp ok]
    rw [List.length_map] at hp
    exact hp
  have l1 := told_len O.2.1 O.2.2 hp2
  exact can_of hp2 (told_stp O.2.1 O.2.2 hp2) (by have := O.1; omega)
theorem ful_sb (ok : TOk s) : (fulT s).length ≤ 31 ∧ ∀ p ∈ fulT s, SpB p := by
  have O := mk_o ok
  rw [← mk_sp ok]
  refine ⟨?_, fun p hp => ?_⟩
  · have := fm_len (spO (mkK s)) (mkK s).length
    have := O.1
    unfold spL; omega
  · obtain ⟨a, b, c, d, e⟩ := sp_b32 O.2.1 O.2.2 p hp
    exact ⟨by omega, by omega, by omega, by omega, e⟩
end TL
