section HEAPR
variable {ρ : Type} {em : ρ → Option Value} {G : xG} {K : xK} {h0 h : xH} {pc : Nat} {L : List (Nat × Value)} {st : List Value} {X A B : Option (ρ × xH)}
abbrev fA (G : xG) : Nat → Prop := fun q => G.1 ≤ q
abbrev ix (i : Int32) (n : Nat) : Prop := ¬ (i < 0 ∨ n ≤ i.toNatClampNeg)
theorem kd_get {h : xH} {r c : Nat} (hc : c < 99) (e : kc h r = c) : ∃ i, r = i + 2 ∧ h.1[i]? = some (c, kl h r) := by
  match r, e with
  | 0, e => simp [kc, xkd] at e; omega
  | 1, e => simp [kc, xkd] at e; omega
  | i + 2, e =>
    refine ⟨i, rfl, ?_⟩
    cases hh : h.1[i]? with
    | none => simp [kc, xkd, hh] at e; omega
    | some q => simp [kc, xkd, hh] at e; simp [kl, xkd, hh, ← e]
theorem cellOk_cong {h h' : xH} {r a : Nat} {q : Nat × Nat} {H H' : Heap} (e1 : ∀ k, hI h' r k = hI h r k) (e2 : ∀ k, hJ h' r k = hJ h r k) (e3 : ∀ k, hR h' r k = hR h r k) (he : H'[a]? = H[a]?) (ok : cellOk G h r a q H) : cellOk G h' r a q H' := by
  have f1 : fv G h' r q.1 = fv G h r q.1 := by funext k; simp only [fv, e1, e2, e3]
  have f2 : av G h' r q.1 = av G h r q.1 := by funext k; simp only [av, e1, e2, e3]
  unfold cellOk at ok ⊢
  rw [f1, f2]
  split at ok
  · rw [if_pos (by assumption)]; exact ok.kept he
  · rw [if_neg (by assumption), he]; exact ok
theorem Rep_upd {h h' : xH} {H H' : Heap} (i : Nat) (rp : Rep G h H) (hs : H'.size = H.size) (ho : ∀ q, q ≠ G.1 + i → H'[q]? = H[q]?) (e0 : h'.1 = h.1) (e1 : ∀ r, r ≠ i + 2 → ∀ k, hI h' r k = hI h r k) (e2 : ∀ r, r ≠ i + 2 → ∀ k, hJ h' r k = hJ h r k) (e3 : ∀ r, r ≠ i + 2 → ∀ k, hR h' r k = hR h r k) (hc : ∀ q, h.1[i]? = some q → cellOk G h' (i + 2) (G.1 + i) q H') : Rep G h' H' := by
  refine ⟨by rw [hs, e0]; exact rp.1, fun j q hq => ?_⟩
  rw [e0] at hq
  by_cases hj : j = i
  · subst hj; exact hc q hq
  · exact cellOk_cong (e1 _ (by omega)) (e2 _ (by omega)) (e3 _ (by omega)) (ho _ (by omega)) (rp.2 j q hq)
theorem Rep_new {h : xH} {H H' : Heap} {c n : Nat} (rp : Rep G h H) (hs : H'.size = H.size + 1) (ho : ∀ q, q < H.size → H'[q]? = H[q]?) (hc : cellOk G (hnew h c n) (hnx h) (G.1 + h.1.length) (c, n) H') : Rep G (hnew h c n) H' := by
  refine ⟨by rw [hs, rp.1]; simp [hnew]; omega, fun j q hq => ?_⟩
  have hl : (hnew h c n).1 = h.1 ++ [(c, n)] := rfl
  rw [hl] at hq
  by_cases hj : j < h.1.length
  · rw [List.getElem?_append_left hj] at hq
    have hne : j + 2 ≠ hnx h := by simp [hnx]; omega
    refine cellOk_cong (fun k => ?_) (fun k => ?_) (fun k => ?_) (ho _ (by rw [rp.1]; omega)) (rp.2 j q hq)
    · simp [hI, hnew, cl1, hne]
    · simp [hJ, hnew, cl1, hne]
    · simp [hR, hnew, cl1, hne]
  · have hj2 : j = h.1.length := by
      have := (List.getElem?_eq_some_iff.mp hq).1
      simp at this; omega
    subst hj2
    simp at hq
    subst hq
    exact hc
theorem Le.of_eq {h h1 : xH} (e : h1.1 = h.1) : Le h h1 ∧ cnt h1 = cnt h ∧ siz h1 = siz h := by
  have a : cnt h1 = cnt h := by simp [cnt, e]
  have b : siz h1 = siz h := by simp [siz, e]
  exact ⟨kpe e, a, b⟩
theorem cnt_new (h : xH) (c n : Nat) : cnt (hnew h c n) = cnt h + 1 := by simp [cnt, hnew]
theorem siz_new (h : xH) (c n : Nat) : siz (hnew h c n) = siz h + ksz (c, n) := by simp [siz, hnew]
theorem S_rd {pc' : Nat} {st' : List Value} (hw : ∀ (M : xM) (G : xG), Cx M G K → ∀ (H : Heap) (locs : List Loc) (cells slots : Nat) (ls : Array Slot) (Q : State → Prop), Rep G h H → va_S (fA G) (ms M).heap H locs → lv_has ls (kL K) (L.map (cq G)) → xW M H locs cells slots Q (F0 (mm M) pc' ls (st'.map (cv G))) → xW M H locs cells slots Q (F0 (mm M) pc ls (st.map (cv G)))) (k : S em K h0 pc' L st' h X) : S em K h0 pc L st h X := by
  intro r h' hX
  obtain ⟨le, k⟩ := k r h' hX
  exact ⟨le, fun M G C a1 a2 a3 H locs ls b1 b2 b3 => hw M G C H locs _ _ ls _ b1 b2 b3 (k M G C a1 a2 a3 H locs ls b1 b2 b3)⟩
theorem S_mut {pc' : Nat} {st' : List Value} {h1 : xH} (e : h1.1 = h.1) (hw : ∀ (M : xM) (G : xG), Cx M G K → ∀ (H : Heap) (locs : List Loc) (cells slots : Nat) (ls : Array Slot) (Q : State → Prop), Rep G h H → va_S (fA G) (ms M).heap H locs → lv_has ls (kL K) (L.map (cq G)) → (∀ (H1 : Heap) (locs1 : List Loc), Rep G h1 H1 → va_S (fA G) (ms M).heap H1 locs1 → xW M H1 locs1 cells slots Q (F0 (mm M) pc' ls (st'.map (cv G)))) → xW M H locs cells slots Q (F0 (mm M) pc ls (st.map (cv G)))) (k : S em K h0 pc' L st' h1 X) : S em K h0 pc L st h X := by
  intro r h' hX
  obtain ⟨le, k⟩ := k r h' hX
  obtain ⟨l1, l2, l3⟩ := Le.of_eq e
  refine ⟨l1.tr le, fun M G C a1 a2 a3 H locs ls b1 b2 b3 => hw M G C H locs _ _ ls _ b1 b2 b3 (fun H1 locs1 c1 c2 => ?_)⟩
  have k2 := k M G C a1 a2 (a3.tr l1) H1 locs1 ls c1 c2 b3
  rw [l2, l3] at k2
  exact k2
theorem S_new {pc' : Nat} {st' : List Value} {c n : Nat} (hw : ∀ (M : xM) (G : xG), Cx M G K → ∀ (H : Heap) (locs : List Loc) (cells slots : Nat) (ls : Array Slot) (Q : State → Prop), Rep G h H → va_S (fA G) (ms M).heap H locs → lv_has ls (kL K) (L.map (cq G)) → cells + 1 ≤ (mR M).cells → slots + ksz (c, n) ≤ (mR M).slots → (∀ (H1 : Heap), Rep G (hnew h c n) H1 → va_S (fA G) (ms M).heap H1 locs → xW M H1 locs (cells + 1) (slots + ksz (c, n)) Q (F0 (mm M) pc' ls (st'.map (cv G)))) → xW M H locs cells slots Q (F0 (mm M) pc ls (st.map (cv G)))) (k : S em K h0 pc' L st' (hnew h c n) X) : S em K h0 pc L st h X := by
  intro r h' hX
  obtain ⟨le, k⟩ := k r h' hX
  have l2 := cnt_new h c n
  have l3 := siz_new h c n
  have l1 : Le h (hnew h c n) := ⟨[(c, n)], rfl⟩
  refine ⟨l1.tr le, fun M G C a1 a2 a3 H locs ls b1 b2 b3 => ?_⟩
  have c1 := le.c
  have c2 := le.s
  have c3 := a3.c
  have c4 := a3.s
  refine hw M G C H locs _ _ ls _ b1 b2 b3 (by omega) (by omega) (fun H1 d1 d2 => ?_)
  have k2 := k M G C a1 a2 (a3.tr l1) H1 locs ls d1 d2 b3
  rw [show cnt (hnew h c n) - cnt h0 = cnt h - cnt h0 + 1 by omega, show siz (hnew h c n) - siz h0 = siz h - siz h0 + ksz (c, n) by omega] at k2
  exact k2
/-! fields -/
/-- what is known of class c's table: FT c own index k: own's pool entry index links field k of class c -/
def FT (c : Nat) (own : String) (index k : Nat) : Prop := c < 8 ∧ ∃ (C : String) (T : u_T) (N : Nat), vwCl[c]? = some (C, T, N) ∧ nf c = N ∧ (∀ j, j < N → parseFieldDescriptor (T j).2.2.1 = some (tyA c j)) ∧ (∀ a, a < N → ∀ b, b < N → a ≠ b → (T a).2.1 ≠ (T b).2.1) ∧ (∀ w ∈ u_ws C T N, w ∈ lw_gd) ∧ k < N ∧ Cond.fieldLink own index (T k).1 (T k).2.1 (T k).2.2.1 ∈ lw_gd
/-- it may be written: it isn't final, or this is its own class's constructor -/
def FW (c : Nat) (own nm : String) (k : Nat) : Prop := ∀ (C : String) (T : u_T) (N : Nat), vwCl[c]? = some (C, T, N) → (T k).2.2.2 = false ∨ ((T k).2.2.2 = true ∧ nm = "<init>" ∧ (T k).1 = own)
theorem rp_ob {h : xH} {H : Heap} {i c n : Nat} (rp : Rep G h H) (hc : c < 8) (hi : h.1[i]? = some (c, n)) : t_OB (G.1 + i) (G.2.2.1.1 c) (nf c) (G.2.2.1.2 c) H (fv G h (i + 2) c) := by
  have := rp.2 i _ hi
  unfold cellOk at this
  rw [if_pos hc] at this
  exact this
theorem rp_ar {h : xH} {H : Heap} {i c n : Nat} (rp : Rep G h H) (hc : ¬ c < 8) (hi : h.1[i]? = some (c, n)) : H[G.1 + i]? = some (arrV (G.2.2.2 c) n (av G h (i + 2) c)) := by
  have := rp.2 i _ hi
  unfold cellOk at this
  rw [if_neg hc] at this
  exact this
theorem s_getf {c k index r : Nat} {v : Value} (hk : kc h r = c) (F : FT c (kO K) index k) (d : decode K.1 pc = .ok (.getfield index, 3)) (hv : ∀ G : xG, fv G h r c k = cv G v) (kk : S em K h0 (pc + 3) L (v :: st) h X) : S em K h0 pc L (.ref r :: st) h X := by
  refine S_rd (fun M G C H locs cells slots ls Q rp _ hl w => ?_) kk
  obtain ⟨c8, Cn, T, N, hc, hN, hty, hnm, hin, hkN, hlink⟩ := F
  obtain ⟨i, rfl, hi⟩ := kd_get (by omega) hk
  obtain ⟨cell, q1, q2, q3, q4⟩ := rp_ob rp c8 hi
  obtain ⟨hx, hb, hml, hown, hts, -, hK, -⟩ := C
  obtain ⟨hS, hfc, kC, hkC, hkind⟩ := hK.1 c _ hc
  obtain ⟨cf, kf, fi, f, hif, hsl⟩ := hS k hkN
  refine W.getf hx hb hown (hts _ hlink) hif (u_facts hfc hkC (u_lays hts hin hkN) hif).1 q1 (by rw [q3]; exact fun h => by cases h) (v := cv G v) ?_ rfl rfl d w
  rw [hsl, q4 k (by omega), hv G]
theorem s_getI {c k index r : Nat} (hk : kc h r = c) (F : FT c (kO K) index k) (hf : ftc c k = 0) (d : decode K.1 pc = .ok (.getfield index, 3)) (kk : S em K h0 (pc + 3) L (.int (hI h r k) :: st) h X) : S em K h0 pc L (.ref r :: st) h X :=
  s_getf hk F d (by intro G; simp [fv, hf, cv]) kk
theorem s_getJ {c k index r : Nat} (hk : kc h r = c) (F : FT c (kO K) index k) (hf : ftc c k = 1) (d : decode K.1 pc = .ok (.getfield index, 3)) (kk : S em K h0 (pc + 3) L (.long (hJ h r k) :: st) h X) : S em K h0 pc L (.ref r :: st) h X :=
  s_getf hk F d (by intro G; simp [fv, hf, cv]) kk
theorem s_getR {c k index r : Nat} (hk : kc h r = c) (F : FT c (kO K) index k) (hf : ftc c k = 2) (d : decode K.1 pc = .ok (.getfield index, 3)) (kk : S em K h0 (pc + 3) L (.ref (hR h r k) :: st) h X) : S em K h0 pc L (.ref r :: st) h X :=
  s_getf hk F d (by intro G; simp [fv, hf]) kk
theorem s_putf {c k index r : Nat} {v : Value} {h1 : xH} (hk : kc h r = c) (F : FT c (kO K) index k) (FW0 : FW c (kO K) (kN K) k) (hn : ∀ G : xG, narrow (tyA c k) (cv G v) = cv G v ∧ fits (tyA c k) (cv G v) = true) (d : decode K.1 pc = .ok (.putfield index, 3)) (e0 : h1.1 = h.1) (e1 : ∀ r', r' ≠ r → ∀ j, hI h1 r' j = hI h r' j) (e2 : ∀ r', r' ≠ r → ∀ j, hJ h1 r' j = hJ h r' j) (e3 : ∀ r', r' ≠ r → ∀ j, hR h1 r' j = hR h r' j) (hv : ∀ (G : xG) j, updV (fv G h r c) k (cv G v) j = fv G h1 r c j) (kk : S em K h0 (pc + 3) L st h1 X) : S em K h0 pc L (v :: .ref r :: st) h X := by
  refine S_mut e0 (fun M G C H locs cells slots ls Q rp sv hl w => ?_) kk
  obtain ⟨c8, Cn, T, N, hc, hN, hty, hnm, hin, hkN, hlink⟩ := F
  obtain ⟨i, rfl, hi⟩ := kd_get (by omega) hk
  obtain ⟨cell, q1, q2, q3, q4⟩ := rp_ob rp c8 hi
  obtain ⟨hx, hb, hml, hown, hts, -, hK, -, -, -, hname, -⟩ := C
  have hap := va_apart (own := kO K) hts hin (tyA c) hty hnm hK hc
  obtain ⟨hS, hfc, kC, hkC, hkind⟩ := hK.1 c _ hc
  obtain ⟨cf, kf, fi, f, hif, hsl⟩ := hS k hkN
  have hst := (u_facts hfc hkC (u_lays hts hin hkN) hif).1
  have hlay := hts _ (hin _ (u_in_lay hkN))
  rw [hN] at q4
  have fin : ∀ H' : Heap, H'[G.1 + i]? = some (cell.setSlot f.slot (cv G v)) → H'.size = H.size → (∀ q, q ≠ G.1 + i → H'[q]? = H[q]?) → xW M H' (locs ++ [⟨G.1 + i, f.slot⟩]) cells slots Q (F0 (mm M) (pc + 3) ls (st.map (cv G))) := by
    intro H' a1 a2 a3
    rw [hsl] at a1 ⊢
    refine w H' _ (Rep_upd i rp a2 a3 e0 e1 e2 e3 (fun q hq => ?_)) (sv.put a2 a3 (Nat.le_add_right _ _))
    have hq2 := hi.symm.trans hq
    cases hq2
    unfold cellOk
    rw [if_pos c8, hN]
    exact t_OB.to (V := updV (fv G h (i + 2) c) k (cv G v)) ⟨_, a1, q2, q3, t_set q4 hap hkN _⟩ (fun j _ => hv G j)
  rcases FW0 Cn T N hc with hfin | ⟨hfin, hnm2, hdecl⟩
  · unfold u_lay at hlay
    rw [if_neg (by rw [hfin]; decide)] at hlay
    have h6 := u_store hfc hkC hkind hlay hif (hty k hkN) (hn G).1 (hn G).2
    exact W.putK hx hb (f := f) ⟨hown, hts _ hlink, ⟨_, _, _, hif⟩, hst⟩ (by rw [q2]; exact h6) q1 q3 (by rw [hsl]; exact k2_hasslot (q4 k hkN)) rfl rfl d fin
  · unfold u_lay at hlay
    rw [if_pos hfin] at hlay
    have hcf : (mm M).cls = cf := by
      obtain ⟨_, _, c', _, _, _, -, -, hf', -, -, -, hown2, -⟩ := Cond.laysFinal_spec hlay
      have z1 : c' = cf := by have := hif.symm.trans hf'; simp at this; exact this.1.symm
      rw [hdecl] at hown2
      rw [← z1]; exact Option.some.inj (hown.symm.trans hown2)
    have h6 := u_fits hfc hkC hkind (Or.inr hlay) hif (hty k hkN) (hn G).1 (hn G).2
    exact W.putFinK hx hb hown (hts _ hlink) hif hst hcf ((hname hnm2).trans hnm2) (by rw [q2]; exact h6) q1 q3 (by rw [hsl]; exact k2_hasslot (q4 k hkN)) rfl rfl d fin
theorem fv_I {r c k : Nat} {x : Int32} (hf : ftc c k = 0) : ∀ j, updV (fv G h r c) k (.int x) j = fv G (sI h r k x) r c j := by
  intro j
  by_cases hj : j = k
  · subst hj; simp [updV, fv, hf, sI, hI, up2]
  · simp [updV, fv, sI, hI, hJ, hR, up2, hj]
theorem fv_J {r c k : Nat} {x : Int64} (hf : ftc c k = 1) : ∀ j, updV (fv G h r c) k (.long x) j = fv G (sJ h r k x) r c j := by
  intro j
  by_cases hj : j = k
  · subst hj; simp [updV, fv, hf, sJ, hJ, up2]
  · simp [updV, fv, sJ, hI, hJ, hR, up2, hj]
theorem fv_R {r c k : Nat} {x : Nat} (hf : ftc c k = 2) : ∀ j, updV (fv G h r c) k (cv G (.ref x)) j = fv G (sR h r k x) r c j := by
  intro j
  by_cases hj : j = k
  · subst hj; simp [updV, fv, hf, sR, hR, up2]
  · simp [updV, fv, sR, hI, hJ, hR, up2, hj]
theorem up2_ne {α : Type} {f : Nat → Nat → α} {r k : Nat} {v : α} {r' : Nat} (h : r' ≠ r) (j : Nat) : up2 f r k v r' j = f r' j := by simp [up2, h]
theorem s_putI {c k index r : Nat} {x : Int32} (hk : kc h r = c) (F : FT c (kO K) index k) (FW0 : FW c (kO K) (kN K) k) (hf : ftc c k = 0) (ht : tyA c k = .int) (d : decode K.1 pc = .ok (.putfield index, 3)) (kk : S em K h0 (pc + 3) L st (sI h r k x) X) : S em K h0 pc L (.int x :: .ref r :: st) h X :=
  s_putf (h1 := sI h r k x) hk F FW0 (fun G => by rw [ht]; exact ⟨rfl, rfl⟩) d rfl (fun r' hr j => up2_ne hr j) (fun _ _ _ => rfl) (fun _ _ _ => rfl) (fun G => fv_I (G := G) hf) kk
theorem s_putZ {c k index r : Nat} {x : Int32} (hx : x = 0 ∨ x = 1) (hk : kc h r = c) (F : FT c (kO K) index k) (FW0 : FW c (kO K) (kN K) k) (hf : ftc c k = 0) (ht : tyA c k = .boolean) (d : decode K.1 pc = .ok (.putfield index, 3)) (kk : S em K h0 (pc + 3) L st (sI h r k x) X) : S em K h0 pc L (.int x :: .ref r :: st) h X :=
  s_putf (h1 := sI h r k x) hk F FW0 (fun G => by rw [ht]; rcases hx with rfl | rfl <;> exact ⟨rfl, rfl⟩) d rfl (fun r' hr j => up2_ne hr j) (fun _ _ _ => rfl) (fun _ _ _ => rfl) (fun G => fv_I (G := G) hf) kk
theorem s_putJ {c k index r : Nat} {x : Int64} (hk : kc h r = c) (F : FT c (kO K) index k) (FW0 : FW c (kO K) (kN K) k) (hf : ftc c k = 1) (ht : tyA c k = .long) (d : decode K.1 pc = .ok (.putfield index, 3)) (kk : S em K h0 (pc + 3) L st (sJ h r k x) X) : S em K h0 pc L (.long x :: .ref r :: st) h X :=
  s_putf (h1 := sJ h r k x) hk F FW0 (fun G => by rw [ht]; exact ⟨rfl, rfl⟩) d rfl (fun _ _ _ => rfl) (fun r' hr j => up2_ne hr j) (fun _ _ _ => rfl) (fun G => fv_J (G := G) hf) kk
theorem cv_refR {x : Nat} : (∃ a, cv G (.ref x) = .ref a) ∨ cv G (.ref x) = .null := by
  match x with
  | 0 => exact Or.inr rfl
  | 1 => exact Or.inl ⟨_, rfl⟩
  | k + 2 => exact Or.inl ⟨_, rfl⟩
def isRefT (t : FieldType) : Bool := match t with
  | .object _ => true
  | .array _ => true
  | _ => false
theorem s_putR {c k index r : Nat} {x : Nat} (hk : kc h r = c) (F : FT c (kO K) index k) (FW0 : FW c (kO K) (kN K) k) (hf : ftc c k = 2) (ht : isRefT (tyA c k) = true) (d : decode K.1 pc = .ok (.putfield index, 3)) (kk : S em K h0 (pc + 3) L st (sR h r k x) X) : S em K h0 pc L (.ref x :: .ref r :: st) h X := by
  have hz : ∀ G : xG, narrow (tyA c k) (cv G (.ref x)) = cv G (.ref x) ∧ fits (tyA c k) (cv G (.ref x)) = true := by
    intro G
    generalize tyA c k = t at ht
    rcases cv_refR (G := G) (x := x) with ⟨a, e⟩ | e <;> rw [e] <;> cases t <;> first | (cases ht; done) | exact ⟨rfl, rfl⟩
  exact s_putf (h1 := sR h r k x) hk F FW0 hz d rfl (fun _ _ _ => rfl) (fun _ _ _ => rfl) (fun r' hr j => up2_ne hr j) (fun G => fv_R (G := G) hf) kk
end HEAPR
