/-! ALL SHAPES: seven slots, the spare one, eight of history, fourteen of images -/
def sh (h : xH) (q : Nat) : Nat := if q < 7 then hR h 3 q else if q = 7 then hR h 2 1 else if q < 16 then hR h 13 (q - 8) else hR h 62 (q - 16)
def FrC (r : Nat) : Prop := 2 ≤ r ∧ ckd r = none ∧ (r < 220 ∨ 250 ≤ r)
def ShI (h : xH) (cap : Nat → Nat) (lst : Nat → List Kn) : Prop := Co h ∧ (∀ q, q < 30 → ShK h (sh h q) (cap q) (lst q)) ∧ (∀ p q, p < 30 → q < 30 → p ≠ q → ∀ r k k', AX h (sh h p) r k → ¬ AX h (sh h q) r k') ∧ (∀ q, q < 30 → ∀ r k, AX h (sh h q) r k → FrC r) ∧ 250 ≤ hnx h
theorem ckd_big {r : Nat} (h : 94 ≤ r) : ckd r = none := by
  unfold ckd
  split <;> first | rfl | omega
theorem FrC_big {r : Nat} (h : 250 ≤ r) : FrC r := ⟨by omega, ckd_big (by omega), Or.inr h⟩
theorem AX_lt {h : xH} {s cap : Nat} {ks : List Kn} (W : ShK h s cap ks) {r k : Nat} (z : AX h s r k) : r < hnx h := by
  rcases z with z | ⟨j, j1, j2, z⟩
  · rw [z]; exact kc_lt W.1.1 (by decide)
  · rw [z]
    by_cases c : j = 5
    · rw [c]; exact kc_lt W.c5 (by decide)
    · exact kc_lt (W.1.2.1 j j1 (by omega)).1 (by decide)
theorem ShK.gr {A : Nat → Nat → Prop} {h h' : xH} {s cap : Nat} {ks : List Kn} (W : ShK h s cap ks) (g : Gr A h h') (hA : ∀ r k, AX h s r k → ¬ A r k) : ShK h' s cap ks ∧ ∀ j, hR h' s j = hR h s j := by
  have es : ∀ j, hR h' s j = hR h s j := fun j => (g.2 s j (AX_lt W (k := 0) (Or.inl rfl)) (hA s j (Or.inl rfl))).2.2
  have ex : ∀ r, r < hnx h → xkd h' r = xkd h r := fun r hr => g.1.xkd hr
  obtain ⟨S, K, c1, c2⟩ := id W
  obtain ⟨s1, s2, s3, s4⟩ := S
  refine ⟨⟨⟨?_, fun j a b => ?_, ?_, fun i j a b c => ?_⟩, ⟨?_, fun i k e0 => ?_⟩, c1, c2⟩, es⟩
  · unfold kc; rw [ex s (AX_lt W (k := 0) (Or.inl rfl))]; exact s1
  · have lt := AX_lt W (r := hR h s j) (k := 0) (Or.inr ⟨j, a, by omega, rfl⟩)
    have := s2 j a b
    unfold kc kl at *
    rw [es, ex _ lt]; exact this
  · have lt := AX_lt W (r := hR h s 5) (k := 0) (Or.inr ⟨5, by decide, by decide, rfl⟩)
    unfold kc kl at *
    rw [es, ex _ lt]; exact s3
  · rw [es, es]; exact s4 i j a b c
  · rw [(g.2 s 0 (AX_lt W (k := 0) (Or.inl rfl)) (hA s 0 (Or.inl rfl))).1]; exact K.1
  · have row : ∀ j, 1 ≤ j → j ≤ 5 → hI h' (hR h s j) i = hI h (hR h s j) i ∧ hJ h' (hR h s j) i = hJ h (hR h s j) i := fun j a b => by
      have z := g.2 (hR h s j) i (AX_lt W (k := i) (Or.inr ⟨j, a, b, rfl⟩)) (hA _ i (Or.inr ⟨j, a, b, rfl⟩))
      exact ⟨z.1, z.2.1⟩
    rw [es, es, es, es, es, (row 1 (by decide) (by decide)).2, (row 2 (by decide) (by decide)).2, (row 3 (by decide) (by decide)).2, (row 4 (by decide) (by decide)).2, (row 5 (by decide) (by decide)).1]
    exact K.2 i k e0
section SI
variable {h h' : xH} {cap : Nat → Nat} {lst : Nat → List Kn}
def upA {α : Type} (f : Nat → α) (q : Nat) (v : α) : Nat → α := fun p => if p = q then v else f p
theorem sh_eq (h2 : hR h' 2 1 = hR h 2 1) (h3 : ∀ k, hR h' 3 k = hR h 3 k) (h13 : ∀ k, hR h' 13 k = hR h 13 k) (h62 : ∀ k, hR h' 62 k = hR h 62 k) (q : Nat) : sh h' q = sh h q := by
  unfold sh
  rw [h2, h3, h13, h62]
/-- what touches no shape -/
theorem ShI.fr {A : Nat → Nat → Prop} (I : ShI h cap lst) (f : Fr A h h') (hA : ∀ r k, FrC r → ¬ A r k) : ShI h' cap lst := by
  obtain ⟨co, i1, i2, i3, i4⟩ := I
  have es : ∀ q, sh h' q = sh h q := sh_eq (f.ehR 2 1) (fun k => f.ehR 3 k) (fun k => f.ehR 13 k) (fun k => f.ehR 62 k)
  have ea : ∀ q r k, AX h' (sh h' q) r k → AX h (sh h q) r k := by
    intro q r k z
    rw [es] at z
    rcases z with z | ⟨j, j1, j2, z⟩
    · exact Or.inl z
    · rw [f.ehR] at z; exact Or.inr ⟨j, j1, j2, z⟩
  refine ⟨f.co co, fun q hq => ?_, fun p q hp hq hne r k k' z1 z2 => i2 p q hp hq hne r k k' (ea p r k z1) (ea q r k' z2), fun q hq r k z => i3 q hq r k (ea q r k z), by unfold hnx; rw [f.1]; exact i4⟩
  rw [es]
  exact (i1 q hq).fr f (fun r k z => hA r k (i3 q hq r k z))
theorem crf_ckd {r k x : Nat} (e0 : crf r k = some x) : ∃ y, ckd r = some y := by
  unfold crf at e0
  split at e0 <;> first | exact ⟨_, rfl⟩ | cases e0
/-- one shape is changed -/
theorem ShI.st {B : Nat → Nat → Prop} {q0 cap' : Nat} {ks' : List Kn} (I : ShI h cap lst) (hq0 : q0 < 30) (rw0 : Rw h h' (sh h q0)) (g : Gr (fun r k => AX h (sh h q0) r k ∨ B r k) h h') (hB : ∀ r k, B r k → (∃ x, ckd r = some x) ∧ crf r k = none ∧ r ≠ 2 ∧ r ≠ 3 ∧ r ≠ 13 ∧ r ≠ 62) (W' : ShK h' (sh h q0) cap' ks') : ShI h' (upA cap q0 cap') (upA lst q0 ks') ∧ ∀ q, sh h' q = sh h q := by
  obtain ⟨co, i1, i2, i3, i4⟩ := I
  have nx := g.1.nx
  have crR : ∀ r k, (∃ x, ckd r = some x) → ¬ B r k → hR h' r k = hR h r k := by
    intro r k hc hb
    obtain ⟨x, ex⟩ := hc
    by_cases hr : r < hnx h
    · refine (g.2 r k hr (fun z => ?_)).2.2
      rcases z with z | z
      · rw [(i3 q0 hq0 r k z).2.1] at ex; cases ex
      · exact hb z
    · exfalso
      rw [ckd_big (by omega)] at ex; cases ex
  have es : ∀ q, sh h' q = sh h q := sh_eq (crR 2 1 ⟨_, rfl⟩ (fun z => (hB 2 1 z).2.2.1 rfl)) (fun k => crR 3 k ⟨_, rfl⟩ (fun z => (hB 3 k z).2.2.2.1 rfl)) (fun k => crR 13 k ⟨_, rfl⟩ (fun z => (hB 13 k z).2.2.2.2.1 rfl)) (fun k => crR 62 k ⟨_, rfl⟩ (fun z => (hB 62 k z).2.2.2.2.2 rfl))
  have oth : ∀ q, q < 30 → q ≠ q0 → ShK h' (sh h q) (cap q) (lst q) ∧ ∀ j, hR h' (sh h q) j = hR h (sh h q) j := by
    intro q hq hne
    refine (i1 q hq).gr g (fun r k z y => ?_)
    rcases y with y | y
    · exact i2 q q0 hq hq0 hne r k k z y
    · obtain ⟨x, ex⟩ := (hB r k y).1
      rw [(i3 q hq r k z).2.1] at ex; cases ex
  have ea : ∀ q, q < 30 → ∀ r k, AX h' (sh h' q) r k → AX h (sh h q) r k ∨ (q = q0 ∧ hnx h ≤ r) := by
    intro q hq r k z
    rw [es] at z
    by_cases c : q = q0
    · rcases z with z | ⟨j, j1, j2, z⟩
      · exact Or.inl (Or.inl z)
      · rw [c] at z
        rcases rw0 j j1 j2 with y | y
        · left; right; rw [c]; exact ⟨j, j1, j2, by rw [z, y]⟩
        · right; exact ⟨c, by rw [z]; exact y⟩
    · left
      rcases z with z | ⟨j, j1, j2, z⟩
      · exact Or.inl z
      · rw [(oth q hq c).2] at z; exact Or.inr ⟨j, j1, j2, z⟩
  refine ⟨⟨⟨fun r x e0 => ?_, fun r k x e0 => ?_⟩, fun q hq => ?_, fun p q hp hq hne r k k' z1 z2 => ?_, fun q hq r k z => ?_, by omega⟩, es⟩
  · rw [g.1.xkd (by
      apply Classical.byContradiction
      intro z
      rw [ckd_big (by omega)] at e0; cases e0)]
    exact co.1 r x e0
  · rw [crR r k (crf_ckd e0) (fun z => by have := (hB r k z).2.1; rw [e0] at this; cases this)]
    exact co.2 r k x e0
  · unfold upA
    rw [es]
    by_cases c : q = q0
    · rw [if_pos c, if_pos c, c]; exact W'
    · rw [if_neg c, if_neg c]; exact (oth q hq c).1
  · rcases ea p hp r k z1 with y1 | y1
    · rcases ea q hq r k' z2 with y2 | y2
      · exact i2 p q hp hq hne r k k' y1 y2
      · have := AX_lt (i1 p hp) y1; omega
    · rcases ea q hq r k' z2 with y2 | y2
      · have := AX_lt (i1 q hq) y2; omega
      · exact hne (y1.1.trans y2.1.symm)
  · rcases ea q hq r k z with y | y
    · exact i3 q hq r k y
    · exact FrC_big (by omega)
theorem ShI.sst {q0 cap' : Nat} {ks' : List Kn} (I : ShI h cap lst) (hq0 : q0 < 30) (st : SSt h h' (sh h q0) (cap q0) cap') (W' : ShK h' (sh h q0) cap' ks') : ShI h' (upA cap q0 cap') (upA lst q0 ks') ∧ ∀ q, sh h' q = sh h q := I.st (B := fun _ _ => False) hq0 st.2.1 (st.2.2.mono (fun _ _ z => Or.inl z)) (fun r k z => z.elim) W'
/-- the shapes change places -/
theorem ShI.perm {pi : Nat → Nat} (I : ShI h cap lst) (h1 : h'.1 = h.1) (hIJ : ∀ r k, FrC r → hI h' r k = hI h r k ∧ hJ h' r k = hJ h r k) (hRr : ∀ r k, ¬ (r = 2 ∧ k = 1) → r ≠ 3 → r ≠ 13 → hR h' r k = hR h r k) (hpi : ∀ q, q < 30 → pi q < 30) (hinj : ∀ p q, p < 30 → q < 30 → pi p = pi q → p = q) (hsh : ∀ q, q < 30 → sh h' q = sh h (pi q)) : ShI h' (fun q => cap (pi q)) (fun q => lst (pi q)) := by
  obtain ⟨co, i1, i2, i3, i4⟩ := I
  have ck : ∀ r, kc h' r = kc h r ∧ kl h' r = kl h r := fun r => by unfold kc kl xkd; rw [h1]; exact ⟨rfl, rfl⟩
  have es : ∀ q, q < 30 → ∀ j, hR h' (sh h q) j = hR h (sh h q) j := by
    intro q hq j
    have fr := i3 q hq (sh h q) j (Or.inl rfl)
    refine hRr _ j (fun z => ?_) (fun z => ?_) (fun z => ?_)
    · have := fr.2.1; rw [z.1] at this; cases this
    · have := fr.2.1; rw [z] at this; cases this
    · have := fr.2.1; rw [z] at this; cases this
  have ea : ∀ q, q < 30 → ∀ r k, AX h' (sh h' q) r k → AX h (sh h (pi q)) r k := by
    intro q hq r k z
    rw [hsh q hq] at z
    rcases z with z | ⟨j, j1, j2, z⟩
    · exact Or.inl z
    · rw [es _ (hpi q hq)] at z; exact Or.inr ⟨j, j1, j2, z⟩
  refine ⟨⟨fun r x e0 => ?_, fun r k x e0 => ?_⟩, fun q hq => ?_, fun p q hp hq hne r k k' z1 z2 => i2 (pi p) (pi q) (hpi p hp) (hpi q hq) (fun z => hne (hinj p q hp hq z)) r k k' (ea p hp r k z1) (ea q hq r k' z2), fun q hq r k z => i3 (pi q) (hpi q hq) r k (ea q hq r k z), by unfold hnx; rw [h1]; exact i4⟩
  · have := co.1 r x e0; unfold xkd at *; rw [h1]; exact this
  · rw [hRr r k (fun z => by rw [z.1, z.2] at e0; cases e0) (fun z => by rw [z] at e0; cases e0) (fun z => by rw [z] at e0; cases e0)]
    exact co.2 r k x e0
  · rw [hsh q hq]
    have hp := hpi q hq
    obtain ⟨S, K, c1, c2⟩ := i1 (pi q) hp
    obtain ⟨s1, s2, s3, s4⟩ := S
    have e := es (pi q) hp
    refine ⟨⟨by rw [(ck _).1]; exact s1, fun j a b => by rw [e, (ck _).1, (ck _).2]; exact s2 j a b, by rw [e, (ck _).1, (ck _).2]; exact s3, fun i j a b c => by rw [e, e]; exact s4 i j a b c⟩, ⟨by rw [(hIJ _ 0 (i3 (pi q) hp _ 0 (Or.inl rfl))).1]; exact K.1, fun i k e0 => ?_⟩, c1, c2⟩
    have row : ∀ j, 1 ≤ j → j ≤ 5 → hI h' (hR h (sh h (pi q)) j) i = hI h (hR h (sh h (pi q)) j) i ∧ hJ h' (hR h (sh h (pi q)) j) i = hJ h (hR h (sh h (pi q)) j) i := fun j a b => hIJ _ i (i3 (pi q) hp _ i (Or.inr ⟨j, a, b, rfl⟩))
    rw [e, e, e, e, e, (row 1 (by decide) (by decide)).2, (row 2 (by decide) (by decide)).2, (row 3 (by decide) (by decide)).2, (row 4 (by decide) (by decide)).2, (row 5 (by decide) (by decide)).1]
    exact K.2 i k e0
end SI
/-! wipe -/
theorem c_wipe {h : xH} {s cap : Nat} {ks : List Kn} (W : ShK h s cap ks) : ∃ h', fX4_wipe s h = some ((), h') ∧ ShK h' s cap [] ∧ SSt h h' s cap cap := by
  have f : Fr (AX h s) h (sI h s 0 0) := Fr.I _ (Or.inl rfl)
  refine ⟨sI h s 0 0, ?_, ⟨W.1.fr f, ⟨by rw [hI_sI, if_pos ⟨rfl, rfl⟩]; rfl, fun i k e0 => by simp at e0⟩, by show 0 ≤ cap; omega, W.2.2.2⟩, Rm.same rfl cap, fun j a b => Or.inl rfl, f.gr⟩
  unfold fX4_wipe
  rw [if_pos W.1.1, lt_def]
