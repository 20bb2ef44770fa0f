/-! THE CLASS' meetAt -/
section CM
variable {MA MB MC X : Int} {L : Nat → Ln} {n M r s cap : Nat} {h : xH} {ks : List Kn} {x : Int}
theorem em_no (L : Nat → Ln) (x : Rat) (g : Bool) : em L x (-1) g = [] := rfl
theorem em_at (L : Nat → Ln) (x : Rat) (k : Nat) (g : Bool) : em L x (k : Int) g = [(x, vl (L k) x, g)] := by unfold em; rw [oL_at]; rfl
theorem c_m123 (kk : KonC MA MB MC X) (q : Lo h r M) (w : CLn h r L n) (hn : n ≤ M) (hM : M ≤ 60000) (bL : ∀ k, k < n → LBd MA MB MC (L k)) (hC : MC ≤ 4611686018427387904) (W : ShK h s cap ks) {b : Int} (ib : Ixn n b) (hx : 0 ≤ b → -X ≤ x ∧ x ≤ X) (hl : ks.length + (em L x b true).length ≤ 1600) : ∃ h' cap', fX1_meetAt_b123 r s (i32 x) (i32 b) h = some ((), h') ∧ ShK h' s cap' (ks ++ em L x b true) ∧ SSt h h' s cap cap' := by
  unfold fX1_meetAt_b123
  rcases ib with e | ⟨k, e, hk⟩ <;> subst e
  · rw [if_pos ineg, em_no, List.append_nil]
    exact ⟨h, cap, rfl, W, SSt.rf h s cap⟩
  · rw [em_at] at hl ⊢
    have hl1 : ks.length < 1600 := by have : [((x : Rat), vl (L k) x, true)].length = 1 := rfl; omega
    obtain ⟨h', cap', E, A, B⟩ := c_addEnd kk q w hn hM bL hC W hl1 hk (hx (by omega)) true
    refine ⟨h', cap', ?_, A, B⟩
    rw [if_neg (inn (by omega)), if_pos q.1, show (1 : Int32) = bz true from rfl, E, bd_some]
theorem c_m107 (kk : KonC MA MB MC X) (q : Lo h r M) (w : CLn h r L n) (hn : n ≤ M) (hM : M ≤ 60000) (bL : ∀ k, k < n → LBd MA MB MC (L k)) (hC : MC ≤ 4611686018427387904) (ap : Apt h s r) (W : ShK h s cap ks) {b o : Int} (ib : Ixn n b) (io : Ixn n o) (c8 : hI h r 8 = i32 o) (hx : 0 ≤ b ∨ 0 ≤ o → -X ≤ x ∧ x ≤ X) {g : Bool} (hg : g = true → 0 ≤ o) (hl : ks.length + ((if g = true then em L x o false else []) ++ em L x b true).length ≤ 1600) : ∃ h' cap', fX1_meetAt_b107 r s (i32 x) (i32 b) (bz g) h = some ((), h') ∧ ShK h' s cap' (ks ++ ((if g = true then em L x o false else []) ++ em L x b true)) ∧ SSt h h' s cap cap' := by
  unfold fX1_meetAt_b107
  cases g
  · rw [if_pos (show bz false = 0 from rfl)]
    rw [if_neg (by decide)] at hl ⊢
    exact c_m123 kk q w hn hM bL hC W ib (fun z => hx (Or.inl z)) hl
  · rw [if_neg (show ¬ bz true = 0 by decide), if_pos q.1]
    rw [if_pos rfl] at hl ⊢
    have ho := hg rfl
    rcases io with e | ⟨k, e, hk⟩
    · omega
    · subst e
      rw [em_at] at hl ⊢
      have hl1 : ks.length < 1600 := by rw [List.length_append] at hl; have : [((x : Rat), vl (L k) x, false)].length = 1 := rfl; omega
      obtain ⟨h1, cap1, E, A, B⟩ := c_addEnd kk q w hn hM bL hC W hl1 hk (hx (Or.inr ho)) false
      rw [← List.append_assoc, c8, show (0 : Int32) = bz false from rfl, E, bd_some]
      rw [List.length_append, ← Nat.add_assoc, ← List.length_append] at hl
      obtain ⟨h2, cap2, E2, A2, B2⟩ := c_m123 kk (q.st ap B) (w.st q ap B) hn hM bL hC A ib (fun z => hx (Or.inl z)) hl
      exact ⟨h2, cap2, E2, A2, B.tr B2⟩
theorem c_m95 (kk : KonC MA MB MC X) (q : Lo h r M) (w : CLn h r L n) (hn : n ≤ M) (hM : M ≤ 60000) (bL : ∀ k, k < n → LBd MA MB MC (L k)) (hC : MC ≤ 4611686018427387904) (ap : Apt h s r) (W : ShK h s cap ks) {a b o : Int} (ia : Ixn n a) (ib : Ixn n b) (io : Ixn n o) (c8 : hI h r 8 = i32 o) (hx : 0 ≤ a ∨ 0 ≤ b ∨ 0 ≤ o → -X ≤ x ∧ x ≤ X) {g : Bool} (hg : g = true → 0 ≤ o) (hl : ks.length + (em L x a false ++ ((if g = true then em L x o false else []) ++ em L x b true)).length ≤ 1600) : ∃ h' cap', fX1_meetAt_b95 r s (i32 x) (i32 a) (i32 b) (bz g) h = some ((), h') ∧ ShK h' s cap' (ks ++ (em L x a false ++ ((if g = true then em L x o false else []) ++ em L x b true))) ∧ SSt h h' s cap cap' := by
  unfold fX1_meetAt_b95
  rcases ia with e | ⟨k, e, hk⟩ <;> subst e
  · rw [if_pos ineg]
    rw [em_no, List.nil_append] at hl ⊢
    exact c_m107 kk q w hn hM bL hC ap W ib io c8 (fun z => hx (Or.inr z)) hg hl
  · rw [if_neg (inn (by omega)), if_pos q.1]
    rw [em_at] at hl ⊢
    have hl1 : ks.length < 1600 := by rw [List.length_append] at hl; have : [((x : Rat), vl (L k) x, false)].length = 1 := rfl; omega
    obtain ⟨h1, cap1, E, A, B⟩ := c_addEnd kk q w hn hM bL hC W hl1 hk (hx (Or.inl (by omega))) false
    rw [← List.append_assoc, show (0 : Int32) = bz false from rfl, E, bd_some]
    rw [List.length_append, ← Nat.add_assoc, ← List.length_append] at hl
    obtain ⟨h2, cap2, E2, A2, B2⟩ := c_m107 kk (q.st ap B) (w.st q ap B) hn hM bL hC (ap.st q B) A ib io (by rw [st_0 q ap B 8]; exact c8) (fun z => hx (Or.inr z)) hg hl
    exact ⟨h2, cap2, E2, A2, B.tr B2⟩
theorem kno_em (L : Nat → Ln) (x : Rat) (a b o : Int) : kno x (oL L x a) (oL L x b) ((oL L x o).map (fun w => w.1)) = if (!(loneB (oL L x a) (oL L x b) ((oL L x o).map (fun w => w.1))) && meetsB (oL L x a) (oL L x b)) = true then (if strB (oL L x a) (oL L x b) = true then [] else em L x b true) else em L x a false ++ ((if loneB (oL L x a) (oL L x b) ((oL L x o).map (fun w => w.1)) = true then em L x o false else []) ++ em L x b true) := by
  unfold kno em
  cases oL L x o <;> rfl
theorem c_m48 (kk : KonC MA MB MC X) (q : Lo h r M) (w : CLn h r L n) (hn : n ≤ M) (hM : M ≤ 60000) (bL : ∀ k, k < n → LBd MA MB MC (L k)) (hC : MC ≤ 4611686018427387904) (ap : Apt h s r) (W : ShK h s cap ks) {a b o : Int} (ia : Ixn n a) (ib : Ixn n b) (io : Ixn n o) (c8 : hI h r 8 = i32 o) (hx : 0 ≤ a ∨ 0 ≤ b ∨ 0 ≤ o → -X ≤ x ∧ x ≤ X) {g : Bool} (hg : g = true → 0 ≤ o) (eg : loneB (oL L x a) (oL L x b) ((oL L x o).map (fun w => w.1)) = g) (hl : ks.length + (kno x (oL L x a) (oL L x b) ((oL L x o).map (fun w => w.1))).length ≤ 1600) : ∃ h' cap', fX1_meetAt_b48 (bz g) r s (i32 x) (i32 a) (i32 b) h = some ((), h') ∧ ShK h' s cap' (ks ++ kno x (oL L x a) (oL L x b) ((oL L x o).map (fun w => w.1))) ∧ SSt h h' s cap cap' := by
  have base : (!g && meetsB (oL L x a) (oL L x b)) = false → ∃ h' cap', fX1_meetAt_b95 r s (i32 x) (i32 a) (i32 b) (bz g) h = some ((), h') ∧ ShK h' s cap' (ks ++ kno x (oL L x a) (oL L x b) ((oL L x o).map (fun w => w.1))) ∧ SSt h h' s cap cap' := by
    intro hm
    have ek := kno_em L x a b o
    rw [eg, hm, if_neg (by decide)] at ek
    rw [ek] at hl ⊢
    exact c_m95 kk q w hn hM bL hC ap W ia ib io c8 hx hg hl
  unfold fX1_meetAt_b48
  rcases id ia with e | ⟨k, e, hk⟩
  · rw [if_pos (by rw [e]; exact ineg)]
    exact base (by rw [e, oL_no]; cases g <;> rfl)
  · rw [if_neg (by rw [e]; exact inn (by omega))]
    rcases id ib with f | ⟨m, f, hm⟩
    · rw [if_pos (by rw [f]; exact ineg)]
      exact base (by rw [f, oL_no, e, oL_at]; cases g <;> rfl)
    · rw [if_neg (by rw [f]; exact inn (by omega))]
      have hX := hx (Or.inl (by omega))
      cases g
      · rw [if_pos (show bz false = 0 from rfl), if_pos q.1]
        obtain ⟨z, E, A, C⟩ := c_orderAt kk q w hn hM hk hm (bL k hk) (bL m hm) hX
        rw [← e, ← f] at E
        rw [E, bd_some]
        by_cases c : vl (L k) x = vl (L m) x
        · have z0 : sg z = 0 := by
            have h1 : ¬ sg z < 0 := fun t => by have := A.mp t; grind
            have h2 : ¬ 0 < sg z := fun t => by have := C.mp t; grind
            omega
          rw [if_pos ((si_eq _).mpr z0)]
          obtain ⟨y, E2, A2, C2⟩ := c_steep kk q w hn hM hk hm (bL k hk) (bL m hm)
          rw [← e, ← f] at E2
          rw [E2, bd_some]
          have ek := kno_em L x a b o
          have hmt : meetsB (oL L x a) (oL L x b) = true := by rw [e, f, oL_at, oL_at]; simp [meetsB, c]
          rw [eg, hmt, if_pos (by decide)] at ek
          by_cases c2 : sl (L k) = sl (L m)
          · have y0 : sg y = 0 := by
              have h1 : ¬ sg y < 0 := fun t => by have := A2.mp t; grind
              have h2 : ¬ 0 < sg y := fun t => by have := C2.mp t; grind
              omega
            have hst : strB (oL L x a) (oL L x b) = true := by rw [e, f, oL_at, oL_at]; simp [strB, c2]
            rw [if_pos ((si_eq _).mpr y0), ek, if_pos hst, List.append_nil]
            exact ⟨h, cap, rfl, W, SSt.rf h s cap⟩
          · have y0 : ¬ sg y = 0 := by
              intro t
              have h1 : ¬ sl (L k) < sl (L m) := fun t2 => by have := A2.mpr t2; omega
              have h2 : ¬ sl (L m) < sl (L k) := fun t2 => by have := C2.mpr t2; omega
              grind
            have hst : ¬ strB (oL L x a) (oL L x b) = true := by rw [e, f, oL_at, oL_at]; simp [strB, c2]
            rw [ek, if_neg hst, f, em_at] at hl
            rw [if_neg (fun t => y0 ((si_eq _).mp t)), ek, if_neg hst, f, em_at]
            have hl1 : ks.length < 1600 := by have : [((x : Rat), vl (L m) x, true)].length = 1 := rfl; omega
            obtain ⟨h', cap', E3, A3, B3⟩ := c_addEnd kk q w hn hM bL hC W hl1 hm hX true
            refine ⟨h', cap', ?_, A3, B3⟩
            rw [show (1 : Int32) = bz true from rfl, E3, bd_some]
        · have z0 : ¬ sg z = 0 := by
            intro t
            have h1 : ¬ vl (L k) x < vl (L m) x := fun t2 => by have := A.mpr t2; omega
            have h2 : ¬ vl (L m) x < vl (L k) x := fun t2 => by have := C.mpr t2; omega
            grind
          rw [if_neg (fun t => z0 ((si_eq _).mp t))]
          exact base (by rw [e, f, oL_at, oL_at]; simp [meetsB, c])
      · rw [if_neg (show ¬ bz true = 0 by decide)]
        exact base rfl
theorem c_m24 (kk : KonC MA MB MC X) (q : Lo h r M) (w : CLn h r L n) (hn : n ≤ M) (hM : M ≤ 60000) (bL : ∀ k, k < n → LBd MA MB MC (L k)) (hC : MC ≤ 4611686018427387904) (ap : Apt h s r) (W : ShK h s cap ks) {a b : Int} {o : Nat} (ia : Ixn n a) (ib : Ixn n b) (ho : o < n) (c8 : hI h r 8 = i32 o) (hX : -X ≤ x ∧ x ≤ X) (hla : loneB (oL L x a) none (some (vl (L o) x)) = true) (hl : ks.length + (kno x (oL L x a) (oL L x b) (some (vl (L o) x))).length ≤ 1600) : ∃ h' cap', fX1_meetAt_b24 r s (i32 x) (i32 a) (i32 b) h = some ((), h') ∧ ShK h' s cap' (ks ++ kno x (oL L x a) (oL L x b) (some (vl (L o) x))) ∧ SSt h h' s cap cap' := by
  have eo : (oL L x (o : Int)).map (fun w => w.1) = some (vl (L o) x) := by rw [oL_at]; rfl
  have go : ∀ g : Bool, loneB (oL L x a) (oL L x b) (some (vl (L o) x)) = g → ∃ h' cap', fX1_meetAt_b48 (bz g) r s (i32 x) (i32 a) (i32 b) h = some ((), h') ∧ ShK h' s cap' (ks ++ kno x (oL L x a) (oL L x b) (some (vl (L o) x))) ∧ SSt h h' s cap cap' := by
    intro g eg
    rw [← eo] at eg hl ⊢
    exact c_m48 kk q w hn hM bL hC ap W ia ib (Or.inr ⟨o, rfl, ho⟩) c8 (fun _ => hX) (fun _ => by omega) eg hl
  have ea : loneB (oL L x a) (oL L x b) (some (vl (L o) x)) = (match oL L x b with | none => true | some u => decide (vl (L o) x < u.1)) := by
    clear go hl
    generalize oL L x a = u at hla ⊢
    generalize oL L x b = v
    cases u <;> cases v <;> simp_all [loneB]
  unfold fX1_meetAt_b24 fX1_meetAt_b43 fX1_meetAt_b47
  rcases id ib with f | ⟨m, f, hm⟩
  · rw [if_pos (by rw [f]; exact ineg)]
    exact go true (by rw [ea, f, oL_no])
  · rw [if_neg (by rw [f]; exact inn (by omega)), if_pos q.1, c8]
    obtain ⟨z, E, A, C⟩ := c_orderAt kk q w hn hM ho hm (bL o ho) (bL m hm) hX
    rw [← f] at E
    rw [E, bd_some]
    by_cases c : vl (L o) x < vl (L m) x
    · rw [if_neg (fun t => by have := (si_ge _).mp t; have := A.mpr c; omega)]
      exact go true (by rw [ea, f, oL_at]; simp [c])
    · rw [if_pos ((si_ge _).mpr (by have : ¬ sg z < 0 := fun t => c (A.mp t); omega))]
      exact go false (by rw [ea, f, oL_at]; simp [c])
theorem c_meetAt (kk : KonC MA MB MC X) (q : Lo h r M) (w : CLn h r L n) (hn : n ≤ M) (hM : M ≤ 60000) (bL : ∀ k, k < n → LBd MA MB MC (L k)) (hC : MC ≤ 4611686018427387904) (ap : Apt h s r) (W : ShK h s cap ks) {a b o : Int} (ia : Ixn n a) (ib : Ixn n b) (io : Ixn n o) (c8 : hI h r 8 = i32 o) (hx : 0 ≤ a ∨ 0 ≤ b ∨ 0 ≤ o → -X ≤ x ∧ x ≤ X) (hl : ks.length + (kno x (oL L x a) (oL L x b) ((oL L x o).map (fun w => w.1))).length ≤ 1600) : ∃ h' cap', fX1_meetAt r s (i32 x) (i32 a) (i32 b) h = some ((), h') ∧ ShK h' s cap' (ks ++ kno x (oL L x a) (oL L x b) ((oL L x o).map (fun w => w.1))) ∧ SSt h h' s cap cap' := by
  unfold fX1_meetAt
  rw [if_pos q.1, c8]
  rcases id io with e | ⟨k, e, hk⟩
  · rw [if_pos (by rw [e]; exact ineg)]
    unfold fX1_meetAt_b47
    exact c_m48 (g := false) kk q w hn hM bL hC ap W ia ib io c8 hx (fun z => by cases z) (by rw [e, oL_no]; rfl) hl
  · have hX := hx (Or.inr (Or.inr (by omega)))
    have eo : (oL L x o).map (fun w => w.1) = some (vl (L k) x) := by rw [e, oL_at]; rfl
    rw [if_neg (by rw [e]; exact inn (by omega))]
    rcases id ia with f | ⟨m, f, hm⟩
    · rw [if_pos (by rw [f]; exact ineg)]
      rw [eo] at hl ⊢
      exact c_m24 kk q w hn hM bL hC ap W ia ib hk (by rw [c8, e]) hX (by rw [f, oL_no]; rfl) hl
    · rw [if_neg (by rw [f]; exact inn (by omega))]
      obtain ⟨z, E, A, C⟩ := c_orderAt kk q w hn hM hk hm (bL k hk) (bL m hm) hX
      rw [← e, ← f] at E
      rw [E, bd_some]
      by_cases c : vl (L k) x < vl (L m) x
      · rw [if_neg (fun t => by have := (si_ge _).mp t; have := A.mpr c; omega)]
        rw [eo] at hl ⊢
        exact c_m24 kk q w hn hM bL hC ap W ia ib hk (by rw [c8, e]) hX (by rw [f, oL_at]; simp [loneB, c]) hl
      · rw [if_pos ((si_ge _).mpr (by have : ¬ sg z < 0 := fun t => c (A.mp t); omega))]
        unfold fX1_meetAt_b47
        exact c_m48 (g := false) kk q w hn hM bL hC ap W ia ib io c8 hx (fun z => by cases z) (by rw [eo, f, oL_at]; simp [loneB, c]) hl
end CM
