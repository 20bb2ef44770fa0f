/-! HEAPS THAT GROW: frames that let new cells be made -/
def Gr (A : Nat → Nat → Prop) (h h' : xH) : Prop := Le h h' ∧ ∀ r k, r < hnx h → ¬ A r k → hI h' r k = hI h r k ∧ hJ h' r k = hJ h r k ∧ hR h' r k = hR h r k
theorem Le.nx {h h' : xH} (l : Le h h') : hnx h ≤ hnx h' := by
  obtain ⟨t, e⟩ := l
  unfold hnx; rw [e, List.length_append]; omega
theorem Le.xkd {h h' : xH} (l : Le h h') {r : Nat} (hr : r < hnx h) : xkd h' r = xkd h r := by
  obtain ⟨t, e⟩ := l
  match r with
  | 0 => rfl
  | 1 => rfl
  | k + 2 =>
    show (h'.1[k]?).getD (99, 0) = (h.1[k]?).getD (99, 0)
    rw [e, List.getElem?_append_left (by unfold hnx at hr; omega)]
theorem Gr.rf {A : Nat → Nat → Prop} (h : xH) : Gr A h h := ⟨Le.rf h, fun _ _ _ _ => ⟨rfl, rfl, rfl⟩⟩
theorem Gr.tr {A : Nat → Nat → Prop} {a b c : xH} (u : Gr A a b) (v : Gr A b c) : Gr A a c := by
  refine ⟨u.1.tr v.1, fun r k hr q => ?_⟩
  have x := u.2 r k hr q
  have y := v.2 r k (Nat.lt_of_lt_of_le hr u.1.nx) q
  exact ⟨y.1.trans x.1, y.2.1.trans x.2.1, y.2.2.trans x.2.2⟩
theorem Gr.mono {A B : Nat → Nat → Prop} {a b : xH} (u : Gr A a b) (hAB : ∀ r k, A r k → B r k) : Gr B a b := ⟨u.1, fun r k hr q => u.2 r k hr (fun z => q (hAB r k z))⟩
theorem Fr.gr {A : Nat → Nat → Prop} {a b : xH} (u : Fr A a b) : Gr A a b := ⟨kpe u.1, fun r k _ q => ⟨(u.2.2 r k q).1, (u.2.2 r k q).2, by unfold hR; rw [u.2.1]⟩⟩
theorem Gr.R {A : Nat → Nat → Prop} {h : xH} {r k : Nat} (v : Nat) (a : A r k) : Gr A h (sR h r k v) := ⟨kpe rfl, fun r' k' _ q => ⟨rfl, rfl, by rw [hR_sR, if_neg]; intro e; rw [e.1, e.2] at q; exact q a⟩⟩
theorem Gr.nw {A : Nat → Nat → Prop} (h : xH) (c n : Nat) : Gr A h (hnew h c n) := by
  refine ⟨⟨[(c, n)], rfl⟩, fun r k hr _ => ?_⟩
  have hne : ¬ r = hnx h := by omega
  refine ⟨?_, ?_, ?_⟩
  · show (if r = hnx h then (0 : Int32) else h.2.1 r k) = h.2.1 r k; rw [if_neg hne]
  · show (if r = hnx h then (0 : Int64) else h.2.2.1 r k) = h.2.2.1 r k; rw [if_neg hne]
  · show (if r = hnx h then (0 : Nat) else h.2.2.2 r k) = h.2.2.2 r k; rw [if_neg hne]
theorem Gr.cpJn {A : Nat → Nat → Prop} (h : xH) (a m N : Nat) : Gr A h (cpJ (hnew h 9 N) a 0 (hnx h) 0 m) := by
  refine ⟨⟨[(9, N)], rfl⟩, fun r k hr q => ?_⟩
  have x := (Gr.nw (A := A) h 9 N).2 r k hr q
  refine ⟨x.1, ?_, x.2.2⟩
  rw [← x.2.1]
  show (if r = hnx h ∧ 0 ≤ k ∧ k < 0 + m then _ else hJ (hnew h 9 N) r k) = hJ (hnew h 9 N) r k
  rw [if_neg (fun z => by omega)]
theorem Gr.cpIn {A : Nat → Nat → Prop} (h : xH) (a m N : Nat) : Gr A h (cpI (hnew h 8 N) a 0 (hnx h) 0 m) := by
  refine ⟨⟨[(8, N)], rfl⟩, fun r k hr q => ?_⟩
  have x := (Gr.nw (A := A) h 8 N).2 r k hr q
  refine ⟨?_, x.2.1, x.2.2⟩
  rw [← x.1]
  show (if r = hnx h ∧ 0 ≤ k ∧ k < 0 + m then _ else hI (hnew h 8 N) r k) = hI (hnew h 8 N) r k
  rw [if_neg (fun z => by omega)]
theorem cpJ_at {h : xH} {a m N k : Nat} (ha : a < hnx h) (hk : k < m) : hJ (cpJ (hnew h 9 N) a 0 (hnx h) 0 m) (hnx h) k = hJ h a k := by
  show (if hnx h = hnx h ∧ 0 ≤ k ∧ k < 0 + m then hJ (hnew h 9 N) a (0 + (k - 0)) else _) = _
  rw [if_pos ⟨rfl, by omega, by omega⟩, show 0 + (k - 0) = k by omega]
  exact ((Gr.nw (A := fun _ _ => False) h 9 N).2 a k ha (fun z => z)).2.1
theorem cpI_at {h : xH} {a m N k : Nat} (ha : a < hnx h) (hk : k < m) : hI (cpI (hnew h 8 N) a 0 (hnx h) 0 m) (hnx h) k = hI h a k := by
  show (if hnx h = hnx h ∧ 0 ≤ k ∧ k < 0 + m then hI (hnew h 8 N) a (0 + (k - 0)) else _) = _
  rw [if_pos ⟨rfl, by omega, by omega⟩, show 0 + (k - 0) = k by omega]
  exact ((Gr.nw (A := fun _ _ => False) h 8 N).2 a k ha (fun z => z)).1
