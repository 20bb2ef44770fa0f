/-! A JOIN'S CHAINS, its knots, what both sides ask of its lines -/
theorem lby_v1 {s : Spn} (h : s.1 < s.2.2.1) : vl (lby s) (s.1 : Rat) = (s.2.1 : Rat) ∧ vl (lby s) (s.2.2.1 : Rat) = (s.2.2.2 : Rat) := by
  obtain ⟨x1, y1, x2, y2⟩ := s
  have h : x1 < x2 := h
  have d0 : ((x2 - x1 : Int) : Rat) ≠ 0 := cast_ne (by omega)
  refine ⟨?_, ?_⟩
  · show vl (lby (x1, y1, x2, y2)) (x1 : Rat) = (y1 : Rat)
    rw [lby_al h, show y1 * (x2 - x1) + (y2 - y1) * (x1 - x1) = y1 * (x2 - x1) by rw [Int.sub_self, Int.mul_zero, Int.add_zero], Rat.intCast_mul, Rat.mul_div_cancel d0]
  · show vl (lby (x1, y1, x2, y2)) (x2 : Rat) = (y2 : Rat)
    rw [lby_al h, ← Int.add_mul, show y1 + (y2 - y1) = y2 by omega, Rat.intCast_mul, Rat.mul_div_cancel d0]
def jBg (fs gs : List Spn) : List Rat := fs.flatMap (fun p => gs.map (fun q => ((p.1 + q.1 : Int) : Rat)))
def jEn (fs gs : List Spn) : List Rat := fs.flatMap (fun p => gs.map (fun q => ((p.2.2.1 + q.2.2.1 : Int) : Rat)))
section JK
variable {fs gs : List Spn}
theorem jm_at {s : Spn} (hs : s ∈ joM fs gs) : ∃ o, o < ((joM fs gs).map lby).length ∧ lnn ((joM fs gs).map lby) o = lby s := by
  obtain ⟨o, ho⟩ := List.getElem?_of_mem hs
  refine ⟨o, by rw [List.length_map]; exact (List.getElem?_eq_some_iff.mp ho).1, ?_⟩
  unfold lnn
  rw [List.getElem?_map, ho]; rfl
theorem jm_of {o : Nat} (ho : o < ((joM fs gs).map lby).length) : ∃ p q s, p ∈ fs ∧ q ∈ gs ∧ s ∈ joS p q ∧ (∀ s' ∈ joS p q, s' ∈ joM fs gs) ∧ lnn ((joM fs gs).map lby) o = lby s := by
  obtain ⟨x, _, _, e, hx⟩ := jo_at ho
  unfold joM at hx
  obtain ⟨p, hp, hx⟩ := List.mem_flatMap.mp hx
  obtain ⟨q, hq, hx⟩ := List.mem_flatMap.mp hx
  exact ⟨p, q, x.1, hp, hq, hx, fun s' h' => List.mem_flatMap.mpr ⟨p, hp, List.mem_flatMap.mpr ⟨q, hq, h'⟩⟩, e⟩
theorem in_bg {p q : Spn} (hp : p ∈ fs) (hq : q ∈ gs) : ((p.1 + q.1 : Int) : Rat) ∈ jBg fs gs := List.mem_flatMap.mpr ⟨p, hp, List.mem_map.mpr ⟨q, hq, rfl⟩⟩
theorem in_en {p q : Spn} (hp : p ∈ fs) (hq : q ∈ gs) : ((p.2.2.1 + q.2.2.1 : Int) : Rat) ∈ jEn fs gs := List.mem_flatMap.mpr ⟨p, hp, List.mem_map.mpr ⟨q, hq, rfl⟩⟩
theorem jo_hE (wf : ∀ p ∈ fs, SpW p) (wg : ∀ p ∈ gs, SpW p) (o : Nat) (ho : o < ((joM fs gs).map lby).length) (hv : lnF (lnn ((joM fs gs).map lby) o) < lnT (lnn ((joM fs gs).map lby) o)) : (lnT (lnn ((joM fs gs).map lby) o) : Rat) ∈ jEn fs gs ∨ ∃ o', o' < ((joM fs gs).map lby).length ∧ lnF (lnn ((joM fs gs).map lby) o') = lnT (lnn ((joM fs gs).map lby) o) ∧ lnF (lnn ((joM fs gs).map lby) o') < lnT (lnn ((joM fs gs).map lby) o') ∧ vl (lnn ((joM fs gs).map lby) o') (lnT (lnn ((joM fs gs).map lby) o) : Rat) = vl (lnn ((joM fs gs).map lby) o) (lnT (lnn ((joM fs gs).map lby) o) : Rat) := by
  obtain ⟨p, q, s, hp, hq, hs, hall, e⟩ := jm_of ho
  have bp := wf p hp
  have bq := wg q hq
  unfold SpW at bp bq
  rw [e] at hv ⊢
  rw [(lby_ends s).1, (lby_ends s).2] at hv
  rw [(lby_ends s).2]
  have two : ∀ s1 s2 : Spn, joS p q = [s1, s2] → s1.2.2.1 = s2.1 → s1.2.2.2 = s2.2.1 → s2.1 < s2.2.2.1 → s2.2.2.1 = p.2.2.1 + q.2.2.1 → (s.2.2.1 : Rat) ∈ jEn fs gs ∨ ∃ o', o' < ((joM fs gs).map lby).length ∧ lnF (lnn ((joM fs gs).map lby) o') = s.2.2.1 ∧ lnF (lnn ((joM fs gs).map lby) o') < lnT (lnn ((joM fs gs).map lby) o') ∧ vl (lnn ((joM fs gs).map lby) o') (s.2.2.1 : Rat) = vl (lby s) (s.2.2.1 : Rat) := by
    intro s1 s2 es h1 h2 h3 h4
    rw [es] at hs hall
    rcases List.mem_cons.mp hs with z | z
    · right
      obtain ⟨o', ho', e'⟩ := jm_at (hall s2 (List.mem_cons_of_mem _ List.mem_cons_self))
      refine ⟨o', ho', ?_, ?_, ?_⟩
      · rw [e', (lby_ends s2).1, z, h1]
      · rw [e', (lby_ends s2).1, (lby_ends s2).2]; exact h3
      · rw [e', (lby_v1 hv).2]
        have := (lby_v1 h3).1
        rw [← h1, ← h2, ← z] at this
        exact this
    · left
      rw [List.mem_singleton] at z
      rw [z, h4]; exact in_en hp hq
  by_cases c : p.1 = p.2.2.1 ∨ q.1 = q.2.2.1
  · have es : joS p q = [(p.1 + q.1, p.2.1 + q.2.1, p.2.2.1 + q.2.2.1, p.2.2.2 + q.2.2.2)] := if_pos c
    rw [es, List.mem_singleton] at hs
    left
    rw [hs]; exact in_en hp hq
  · by_cases c2 : (p.2.2.2 - p.2.1) * (q.2.2.1 - q.1) ≤ (q.2.2.2 - q.2.1) * (p.2.2.1 - p.1)
    · exact two _ _ ((if_neg c).trans (if_pos c2)) rfl rfl (by dsimp only; omega) rfl
    · exact two _ _ ((if_neg c).trans (if_neg c2)) rfl rfl (by dsimp only; omega) rfl
theorem jo_hB (wf : ∀ p ∈ fs, SpW p) (wg : ∀ p ∈ gs, SpW p) (o : Nat) (ho : o < ((joM fs gs).map lby).length) (hv : lnF (lnn ((joM fs gs).map lby) o) < lnT (lnn ((joM fs gs).map lby) o)) : (lnF (lnn ((joM fs gs).map lby) o) : Rat) ∈ jBg fs gs ∨ ∃ o', o' < ((joM fs gs).map lby).length ∧ lnT (lnn ((joM fs gs).map lby) o') = lnF (lnn ((joM fs gs).map lby) o) ∧ lnF (lnn ((joM fs gs).map lby) o') < lnT (lnn ((joM fs gs).map lby) o') ∧ vl (lnn ((joM fs gs).map lby) o') (lnF (lnn ((joM fs gs).map lby) o) : Rat) = vl (lnn ((joM fs gs).map lby) o) (lnF (lnn ((joM fs gs).map lby) o) : Rat) := by
  obtain ⟨p, q, s, hp, hq, hs, hall, e⟩ := jm_of ho
  have bp := wf p hp
  have bq := wg q hq
  unfold SpW at bp bq
  rw [e] at hv ⊢
  rw [(lby_ends s).1, (lby_ends s).2] at hv
  rw [(lby_ends s).1]
  have two : ∀ s1 s2 : Spn, joS p q = [s1, s2] → s1.2.2.1 = s2.1 → s1.2.2.2 = s2.2.1 → s1.1 < s1.2.2.1 → s1.1 = p.1 + q.1 → (s.1 : Rat) ∈ jBg fs gs ∨ ∃ o', o' < ((joM fs gs).map lby).length ∧ lnT (lnn ((joM fs gs).map lby) o') = s.1 ∧ lnF (lnn ((joM fs gs).map lby) o') < lnT (lnn ((joM fs gs).map lby) o') ∧ vl (lnn ((joM fs gs).map lby) o') (s.1 : Rat) = vl (lby s) (s.1 : Rat) := by
    intro s1 s2 es h1 h2 h3 h4
    rw [es] at hs hall
    rcases List.mem_cons.mp hs with z | z
    · left
      rw [z, h4]; exact in_bg hp hq
    · right
      rw [List.mem_singleton] at z
      obtain ⟨o', ho', e'⟩ := jm_at (hall s1 List.mem_cons_self)
      refine ⟨o', ho', ?_, ?_, ?_⟩
      · rw [e', (lby_ends s1).2, z, h1]
      · rw [e', (lby_ends s1).1, (lby_ends s1).2]; exact h3
      · rw [e', (lby_v1 hv).1]
        have := (lby_v1 h3).2
        rw [h1, h2, ← z] at this
        exact this
  by_cases c : p.1 = p.2.2.1 ∨ q.1 = q.2.2.1
  · have es : joS p q = [(p.1 + q.1, p.2.1 + q.2.1, p.2.2.1 + q.2.2.1, p.2.2.2 + q.2.2.2)] := if_pos c
    rw [es, List.mem_singleton] at hs
    left
    rw [hs]; exact in_bg hp hq
  · by_cases c2 : (p.2.2.2 - p.2.1) * (q.2.2.1 - q.1) ≤ (q.2.2.2 - q.2.1) * (p.2.2.1 - p.1)
    · exact two _ _ ((if_neg c).trans (if_pos c2)) rfl rfl (by dsimp only; omega) rfl
    · exact two _ _ ((if_neg c).trans (if_neg c2)) rfl rfl (by dsimp only; omega) rfl
theorem jo_hL (wf : ∀ p ∈ fs, SpW p) (wg : ∀ p ∈ gs, SpW p) (o : Nat) (ho : o < ((joM fs gs).map lby).length) (hv : lnF (lnn ((joM fs gs).map lby) o) = lnT (lnn ((joM fs gs).map lby) o)) : (lnF (lnn ((joM fs gs).map lby) o) : Rat) ∈ jBg fs gs ∧ (lnF (lnn ((joM fs gs).map lby) o) : Rat) ∈ jEn fs gs ∧ (lnF (lnn ((joM fs gs).map lby) o) : Rat) ∈ jBg (fs.filter spZ) (gs.filter spZ) := by
  obtain ⟨p, q, s, hp, hq, hs, hall, e⟩ := jm_of ho
  have bp := wf p hp
  have bq := wg q hq
  unfold SpW at bp bq
  rw [e] at hv ⊢
  rw [(lby_ends s).1, (lby_ends s).2] at hv
  rw [(lby_ends s).1]
  by_cases c : p.1 = p.2.2.1 ∨ q.1 = q.2.2.1
  · have es : joS p q = [(p.1 + q.1, p.2.1 + q.2.1, p.2.2.1 + q.2.2.1, p.2.2.2 + q.2.2.2)] := if_pos c
    rw [es, List.mem_singleton] at hs
    subst hs
    dsimp only at hv ⊢
    have e1 : p.1 = p.2.2.1 := by omega
    have e2 : q.1 = q.2.2.1 := by omega
    refine ⟨in_bg hp hq, ?_, in_bg (List.mem_filter.mpr ⟨hp, decide_eq_true e1⟩) (List.mem_filter.mpr ⟨hq, decide_eq_true e2⟩)⟩
    rw [show p.1 + q.1 = p.2.2.1 + q.2.2.1 by omega]
    exact in_en hp hq
  · exfalso
    unfold joS at hs
    rw [if_neg c] at hs
    split at hs
    · rcases List.mem_cons.mp hs with z | z
      · subst z; dsimp only at hv; omega
      · rw [List.mem_singleton] at z; subst z; dsimp only at hv; omega
    · rcases List.mem_cons.mp hs with z | z
      · subst z; dsimp only at hv; omega
      · rw [List.mem_singleton] at z; subst z; dsimp only at hv; omega
theorem jo_kn (wf : ∀ p ∈ fs, SpW p) (wg : ∀ p ∈ gs, SpW p) {c G : Nat} (hf : fs.length ≤ c) (hg : gs.length ≤ c) (hG : (fs.filter spV).length + (gs.filter spV).length ≤ G) (hG2 : G ≤ 32) {ks : List Kn} (hp : PaperIs (lnn ((joM fs gs).map lby)) ((joM fs gs).map lby).length ks) : ks.length ≤ c * tau 5 G + (fs.length * gs.length + (fs.length * gs.length + (fs.filter spZ).length * (gs.filter spZ).length)) := by
  have k0 := knots_ch (jo_hE wf wg) (jo_hB wf wg) (jo_hL wf wg) (fun ps he => jo_pie wf wg hf hg hG hG2 (Nat.le_refl _) he) hp
  have l1 : (jBg fs gs).length ≤ fs.length * gs.length := fm_le12 fs (fun p _ => by rw [List.length_map]; omega)
  have l2 : (jEn fs gs).length ≤ fs.length * gs.length := fm_le12 fs (fun p _ => by rw [List.length_map]; omega)
  have l3 : (jBg (fs.filter spZ) (gs.filter spZ)).length ≤ (fs.filter spZ).length * (gs.filter spZ).length := fm_le12 (fs.filter spZ) (fun p _ => by rw [List.length_map]; omega)
  omega
end JK
/-! numbers -/
theorem fm_none {α : Type} {f : Nat → Option α} {k : Nat} (h : f k = none) : ∀ N, k < N → ((List.range N).filterMap f).length + 1 ≤ N := by
  intro N
  induction N with
  | zero => intro z; omega
  | succ N ih =>
    intro hk
    rw [fm_succ, List.length_append]
    by_cases c : k = N
    · rw [← c, h]
      have := fm_len f k
      show _ + 0 + 1 ≤ _
      omega
    · have := ih (by omega)
      have := tl1 (f N)
      omega
theorem can_11 {ks : List Kn} (C : Can ks) (h : 0 < ((spL ks).filter spV).length) : (spL ks).length ≤ 11 := by
  obtain ⟨p, hp⟩ := List.exists_mem_of_length_pos h
  obtain ⟨hp, hv⟩ := List.mem_filter.mp hp
  have hv := of_decide_eq_true hv
  unfold spL at hp
  obtain ⟨k, hk, e⟩ := List.mem_filterMap.mp hp
  have hkl := List.mem_range.mp hk
  have g : kg ks k = true := by
    unfold spO at e
    by_cases c : kg ks k = true
    · exact c
    · exfalso
      rw [if_neg c] at e
      split at e
      · rw [← Option.some.inj e] at hv
        dsimp only at hv
        omega
      · cases e
  obtain ⟨i, hi, gi, hlast⟩ := last_ex (p := fun i => kg ks i = true) ks.length ⟨k, hkl, g⟩
  have f := C.1.2.2.2 i hi gi
  have no : spO ks (i + 1) = none := by
    unfold spO
    rw [if_neg (hlast (i + 1) f.1 (by omega)), if_neg]
    rintro (z | z)
    · omega
    · rw [show i + 1 - 1 = i by omega, gi] at z; cases z
  have := fm_none no ks.length f.1
  have := C.1.1
  unfold spL
  omega
theorem flt_two : ∀ (l : List Spn), (∀ p ∈ l, SpW p) → (l.filter spV).length + (l.filter spZ).length = l.length := by
  intro l
  induction l with
  | nil => intro _; rfl
  | cons a l ih =>
    intro h
    have h1 := h a List.mem_cons_self
    have h2 := ih (fun p hp => h p (List.mem_cons_of_mem _ hp))
    rw [List.filter_cons, List.filter_cons, List.length_cons]
    by_cases c : a.1 < a.2.2.1
    · rw [if_pos (show spV a = true from decide_eq_true c), if_neg (by rw [show spZ a = false from decide_eq_false (by omega)]; decide), List.length_cons]
      omega
    · rw [if_neg (by rw [show spV a = false from decide_eq_false c]; decide), if_pos (show spZ a = true from decide_eq_true (show a.1 = a.2.2.1 by have := h1.1; omega)), List.length_cons]
      omega
theorem prod25 : ∀ u, u < 11 → ∀ v, v < 11 → u + v ≤ 10 → u * v ≤ 25 := by decide
theorem tau_11b : tau 5 11 = 50 := by decide
theorem tau_21b : tau 5 21 = 115 := by decide
theorem tau_22b : tau 5 22 = 122 := by decide
theorem jo_num {nf ng a b u v : Nat} (h1 : nf ≤ 12) (h2 : ng ≤ 12) (h3 : a + u = nf) (h4 : b + v = ng) (h5 : 0 < a → nf ≤ 11) (h6 : 0 < b → ng ≤ 11) : ∃ c G, nf ≤ c ∧ ng ≤ c ∧ a + b ≤ G ∧ G ≤ 32 ∧ c * tau 5 G + (nf * ng + (nf * ng + u * v)) ≤ 1600 ∧ 2 * (c * tau 5 G) + 288 ≤ 4000 := by
  by_cases c1 : a + b ≤ 11
  · refine ⟨12, 11, h1, h2, c1, by decide, ?_, ?_⟩
    · rw [tau_11b]
      have m1 : nf * ng ≤ 12 * 12 := Nat.mul_le_mul h1 h2
      have m2 : u * v ≤ 12 * 12 := Nat.mul_le_mul (by omega) (by omega)
      omega
    · rw [tau_11b]; decide
  · have ha : 0 < a := by
      by_cases z : 0 < a
      · exact z
      · have := h6 (by omega); omega
    have hb : 0 < b := by
      by_cases z : 0 < b
      · exact z
      · have := h5 ha; omega
    have n1 := h5 ha
    have n2 := h6 hb
    have m1 : nf * ng ≤ 11 * 11 := Nat.mul_le_mul n1 n2
    by_cases c2 : a + b ≤ 21
    · refine ⟨11, 21, n1, n2, c2, by decide, ?_, ?_⟩
      · rw [tau_21b]
        have m2 := prod25 u (by omega) v (by omega) (by omega)
        omega
      · rw [tau_21b]; decide
    · have u0 : u = 0 := by omega
      refine ⟨11, 22, n1, n2, by omega, by decide, ?_, ?_⟩
      · rw [tau_22b, u0, Nat.zero_mul]
        omega
      · rw [tau_22b]; decide
