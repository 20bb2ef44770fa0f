section HEAPA
variable {ρ : Type} {em : ρ → Option Value} {M : xM} {G : xG} {K : xK} {h0 h : xH} {pc : Nat} {L : List (Nat × Value)} {st : List Value} {X A B : Option (ρ × xH)}
theorem Cx.arr (C : Cx M G K) {c t : Nat} {ty : FieldType} (ht : (tysA G)[t]? = some (G.2.2.2 c, ty)) (n : Nat) (f : Nat → Value) : (ms M).isArrayOf (arrV (G.2.2.2 c) n f) ty := (C.2.2.2.2.2.2.1.2 t _ ht).1 n f
theorem ix_lt {i : Int32} {n : Nat} (h : ix i n) : i.toNatClampNeg < n := Nat.not_le.mp fun q => h (Or.inr q)
theorem ix_ar {i : Int32} {n : Nat} {cA : ClassId} {f : Nat → Value} (h : ix i n) : ¬ (i < 0 ∨ (arrV cA n f).slots.size ≤ i.toNatClampNeg) := by rw [arrV_size]; exact h
theorem s_alen {r : Nat} (hk : 8 ≤ kc h r ∧ kc h r ≤ 12) (d : decode K.1 pc = .ok (.arraylength, 1)) (kk : S em K h0 (pc + 1) L (.int (Int32.ofNat (kl h r)) :: st) h X) : S em K h0 pc L (.ref r :: st) h X := by
  refine S_rd (fun M G C H locs cells slots ls Q rp _ hl w => ?_) kk
  obtain ⟨i, rfl, hi⟩ := kd_get (c := kc h r) (by omega) rfl
  have hc := rp_ar rp (by omega) hi
  have go : ∀ (t : Nat) (ty : FieldType), (tysA G)[t]? = some (G.2.2.2 (kc h (i + 2)), ty) → xW M H locs cells slots Q (F0 (mm M) pc ls ((Value.ref (i + 2) :: st).map (cv G))) := fun t ty ht =>
    W.alen (n := Int32.ofNat (kl h (i + 2))) C.1 C.2.1 hc (C.arr ht _ _) (by rw [arrV_size] <;> rfl) rfl rfl d w
  rcases (show kc h (i + 2) = 8 ∨ kc h (i + 2) = 9 ∨ kc h (i + 2) = 10 ∨ kc h (i + 2) = 11 ∨ kc h (i + 2) = 12 by omega) with e | e | e | e | e <;> rw [e] at go
  · exact go 0 _ rfl
  · exact go 1 _ rfl
  · exact go 2 _ rfl
  · exact go 3 _ rfl
  · exact go 4 _ rfl
theorem s_iald {r : Nat} {i : Int32} (hk0 : kc h r = 8) (hk2 : ix i (kl h r)) (d : decode K.1 pc = .ok (.iaload, 1)) (kk : S em K h0 (pc + 1) L (.int (hI h r i.toNatClampNeg) :: st) h X) : S em K h0 pc L (.int i :: .ref r :: st) h X := by
  refine S_rd (fun M G C H locs cells slots ls Q rp _ hl w => ?_) kk
  obtain ⟨j, rfl, hi⟩ := kd_get (by omega) hk0
  have hc := rp_ar rp (by omega) hi
  exact W.iald (v := .int (hI h (j + 2) i.toNatClampNeg)) C.1 C.2.1 hc (C.arr (t := 0) rfl _ _) (fun q => by cases q) (ix_ar hk2) (by rw [arrV_read _ _ (ix_lt hk2)]; rfl) rfl rfl d w
theorem s_lald {r : Nat} {i : Int32} (hk0 : kc h r = 9) (hk2 : ix i (kl h r)) (d : decode K.1 pc = .ok (.laload, 1)) (kk : S em K h0 (pc + 1) L (.long (hJ h r i.toNatClampNeg) :: st) h X) : S em K h0 pc L (.int i :: .ref r :: st) h X := by
  refine S_rd (fun M G C H locs cells slots ls Q rp _ hl w => ?_) kk
  obtain ⟨j, rfl, hi⟩ := kd_get (by omega) hk0
  have hc := rp_ar rp (by omega) hi
  exact W.lald (v := .long (hJ h (j + 2) i.toNatClampNeg)) C.1 C.2.1 hc (C.arr (t := 1) rfl _ _) (fun q => by cases q) (ix_ar hk2) (by rw [arrV_read _ _ (ix_lt hk2)]; rfl) rfl rfl d w
theorem s_zald {r : Nat} {i : Int32} (hk0 : kc h r = 10) (hk2 : ix i (kl h r)) (d : decode K.1 pc = .ok (.baload, 1)) (kk : S em K h0 (pc + 1) L (.int (hI h r i.toNatClampNeg) :: st) h X) : S em K h0 pc L (.int i :: .ref r :: st) h X := by
  refine S_rd (fun M G C H locs cells slots ls Q rp _ hl w => ?_) kk
  obtain ⟨j, rfl, hi⟩ := kd_get (by omega) hk0
  have hc := rp_ar rp (by omega) hi
  exact W.zald (v := .int (hI h (j + 2) i.toNatClampNeg)) C.1 C.2.1 hc (C.arr (t := 2) rfl _ _) (fun q => by cases q) (ix_ar hk2) (by rw [arrV_read _ _ (ix_lt hk2)]; rfl) rfl rfl d w
theorem s_bald {r : Nat} {i : Int32} (hk0 : kc h r = 11) (hk2 : ix i (kl h r)) (d : decode K.1 pc = .ok (.baload, 1)) (kk : S em K h0 (pc + 1) L (.int (hI h r i.toNatClampNeg) :: st) h X) : S em K h0 pc L (.int i :: .ref r :: st) h X := by
  refine S_rd (fun M G C H locs cells slots ls Q rp _ hl w => ?_) kk
  obtain ⟨j, rfl, hi⟩ := kd_get (by omega) hk0
  have hc := rp_ar rp (by omega) hi
  exact W.bald (v := .int (hI h (j + 2) i.toNatClampNeg)) C.1 C.2.1 hc (C.arr (t := 3) rfl _ _) (fun q => by cases q) (ix_ar hk2) (by rw [arrV_read _ _ (ix_lt hk2)]; rfl) rfl rfl d w
theorem s_aald {r : Nat} {i : Int32} (hk0 : kc h r = 12) (hk2 : ix i (kl h r)) (d : decode K.1 pc = .ok (.aaload, 1)) (kk : S em K h0 (pc + 1) L (.ref (hR h r i.toNatClampNeg) :: st) h X) : S em K h0 pc L (.int i :: .ref r :: st) h X := by
  refine S_rd (fun M G C H locs cells slots ls Q rp _ hl w => ?_) kk
  obtain ⟨j, rfl, hi⟩ := kd_get (by omega) hk0
  have hc := rp_ar rp (by omega) hi
  exact W.aald (v := cv G (.ref (hR h (j + 2) i.toNatClampNeg))) (ty := .object "LeastSums$Shape") C.1 C.2.1 hc (C.arr (t := 4) rfl _ _) rfl (fun q => by cases q) (ix_ar hk2) (by rw [arrV_read _ _ (ix_lt hk2)]; rfl) rfl rfl d w
/-- a store into an array's cell: the world behind it -/
theorem rp_st {h h1 : xH} {H H' : Heap} {locs : List Loc} {j c n k : Nat} {v : Value} (rp : Rep G h H) (sv : va_S (fA G) (ms M).heap H locs) (hc : ¬ c < 8) (hi : h.1[j]? = some (c, n)) (a1 : H'[G.1 + j]? = some ((arrV (G.2.2.2 c) n (av G h (j + 2) c)).setSlot k v)) (a2 : H'.size = H.size) (a3 : ∀ q, q ≠ G.1 + j → H'[q]? = H[q]?) (e0 : h1.1 = h.1) (e1 : ∀ r', r' ≠ j + 2 → ∀ i, hI h1 r' i = hI h r' i) (e2 : ∀ r', r' ≠ j + 2 → ∀ i, hJ h1 r' i = hJ h r' i) (e3 : ∀ r', r' ≠ j + 2 → ∀ i, hR h1 r' i = hR h r' i) (hv : updV (av G h (j + 2) c) k v = av G h1 (j + 2) c) : Rep G h1 H' ∧ va_S (fA G) (ms M).heap H' (locs ++ [⟨G.1 + j, k⟩]) := by
  refine ⟨Rep_upd j rp a2 a3 e0 e1 e2 e3 (fun q hq => ?_), sv.put a2 a3 (Nat.le_add_right _ _)⟩
  have hq2 := hi.symm.trans hq
  cases hq2
  unfold cellOk
  rw [if_neg hc, a1, arrV_store, hv]
theorem av_I {r c k : Nat} {x : Int32} (hc : c = 8 ∨ c = 10 ∨ c = 11) : updV (av G h r c) k (.int x) = av G (sI h r k x) r c := by
  funext j
  by_cases hj : j = k
  · subst hj; rcases hc with rfl | rfl | rfl <;> simp [updV, av, sI, hI, up2]
  · rcases hc with rfl | rfl | rfl <;> simp [updV, av, sI, hI, up2, hj]
theorem av_J {r k : Nat} {x : Int64} : updV (av G h r 9) k (.long x) = av G (sJ h r k x) r 9 := by
  funext j
  by_cases hj : j = k
  · subst hj; simp [updV, av, sJ, hJ, up2]
  · simp [updV, av, sJ, hJ, up2, hj]
theorem av_R {r k : Nat} {x : Nat} : updV (av G h r 12) k (cv G (.ref x)) = av G (sR h r k x) r 12 := by
  funext j
  by_cases hj : j = k
  · subst hj; simp [updV, av, sR, hR, up2]
  · simp [updV, av, sR, hR, up2, hj]
theorem s_iast {r : Nat} {i x : Int32} (hk0 : kc h r = 8) (hk2 : ix i (kl h r)) (d : decode K.1 pc = .ok (.iastore, 1)) (kk : S em K h0 (pc + 1) L st (sI h r i.toNatClampNeg x) X) : S em K h0 pc L (.int x :: .int i :: .ref r :: st) h X := by
  refine S_mut (h1 := sI h r i.toNatClampNeg x) rfl (fun M G C H locs cells slots ls Q rp sv hl w => ?_) kk
  obtain ⟨j, rfl, hi⟩ := kd_get (by omega) hk0
  refine W.iast C.1 C.2.1 (rp_ar rp (by omega) hi) (C.arr (t := 0) rfl _ _) (fun q => by cases q) (ix_ar hk2) rfl rfl d (fun H' a1 a2 a3 => ?_)
  obtain ⟨b1, b2⟩ := rp_st (M := M) (h1 := sI h (j + 2) i.toNatClampNeg x) (c := 8) rp sv (by omega) hi a1 a2 a3 rfl (fun r' hr i => up2_ne hr i) (fun _ _ _ => rfl) (fun _ _ _ => rfl) (av_I (by omega))
  exact w H' _ b1 b2
theorem s_last {r : Nat} {i : Int32} {x : Int64} (hk0 : kc h r = 9) (hk2 : ix i (kl h r)) (d : decode K.1 pc = .ok (.lastore, 1)) (kk : S em K h0 (pc + 1) L st (sJ h r i.toNatClampNeg x) X) : S em K h0 pc L (.long x :: .int i :: .ref r :: st) h X := by
  refine S_mut (h1 := sJ h r i.toNatClampNeg x) rfl (fun M G C H locs cells slots ls Q rp sv hl w => ?_) kk
  obtain ⟨j, rfl, hi⟩ := kd_get (by omega) hk0
  refine W.last C.1 C.2.1 (rp_ar rp (by omega) hi) (C.arr (t := 1) rfl _ _) (fun q => by cases q) (ix_ar hk2) rfl rfl d (fun H' a1 a2 a3 => ?_)
  obtain ⟨b1, b2⟩ := rp_st (M := M) (h1 := sJ h (j + 2) i.toNatClampNeg x) (c := 9) rp sv (by omega) hi a1 a2 a3 rfl (fun _ _ _ => rfl) (fun r' hr i => up2_ne hr i) (fun _ _ _ => rfl) av_J
  exact w H' _ b1 b2
theorem s_zast {r : Nat} {i x : Int32} (hx : x = 0 ∨ x = 1) (hk0 : kc h r = 10) (hk2 : ix i (kl h r)) (d : decode K.1 pc = .ok (.bastore, 1)) (kk : S em K h0 (pc + 1) L st (sI h r i.toNatClampNeg x) X) : S em K h0 pc L (.int x :: .int i :: .ref r :: st) h X := by
  refine S_mut (h1 := sI h r i.toNatClampNeg x) rfl (fun M G C H locs cells slots ls Q rp sv hl w => ?_) kk
  obtain ⟨j, rfl, hi⟩ := kd_get (by omega) hk0
  refine W.zast C.1 C.2.1 (rp_ar rp (by omega) hi) (C.arr (t := 2) rfl _ _) (fun q => by cases q) (ix_ar hk2) rfl rfl d (fun H' a1 a2 a3 => ?_)
  have a1 : H'[G.1 + j]? = some ((arrV (G.2.2.2 10) (kl h (j + 2)) (av G h (j + 2) 10)).setSlot i.toNatClampNeg (.int x)) := by
    rcases hx with rfl | rfl <;> exact a1
  obtain ⟨b1, b2⟩ := rp_st (M := M) (h1 := sI h (j + 2) i.toNatClampNeg x) (c := 10) rp sv (by omega) hi a1 a2 a3 rfl (fun r' hr i => up2_ne hr i) (fun _ _ _ => rfl) (fun _ _ _ => rfl) (av_I (by omega))
  exact w H' _ b1 b2
theorem s_bast {r : Nat} {i x : Int32} (hk0 : kc h r = 11) (hk2 : ix i (kl h r)) (d : decode K.1 pc = .ok (.bastore, 1)) (kk : S em K h0 (pc + 1) L st (sI h r i.toNatClampNeg x.toInt8.toInt32) X) : S em K h0 pc L (.int x :: .int i :: .ref r :: st) h X := by
  refine S_mut (h1 := sI h r i.toNatClampNeg x.toInt8.toInt32) rfl (fun M G C H locs cells slots ls Q rp sv hl w => ?_) kk
  obtain ⟨j, rfl, hi⟩ := kd_get (by omega) hk0
  refine W.bast C.1 C.2.1 (rp_ar rp (by omega) hi) (C.arr (t := 3) rfl _ _) (fun q => by cases q) (ix_ar hk2) rfl rfl d (fun H' a1 a2 a3 => ?_)
  obtain ⟨b1, b2⟩ := rp_st (M := M) (h1 := sI h (j + 2) i.toNatClampNeg x.toInt8.toInt32) (c := 11) rp sv (by omega) hi a1 a2 a3 rfl (fun r' hr i => up2_ne hr i) (fun _ _ _ => rfl) (fun _ _ _ => rfl) (av_I (by omega))
  exact w H' _ b1 b2
theorem s_aast {r x : Nat} {i : Int32} (hk0 : kc h x = 4) (hk1 : kc h r = 12) (hk2 : ix i (kl h r)) (d : decode K.1 pc = .ok (.aastore, 1)) (kk : S em K h0 (pc + 1) L st (sR h r i.toNatClampNeg x) X) : S em K h0 pc L (.ref x :: .int i :: .ref r :: st) h X := by
  refine S_mut (h1 := sR h r i.toNatClampNeg x) rfl (fun M G C H locs cells slots ls Q rp sv hl w => ?_) kk
  obtain ⟨j, rfl, hi⟩ := kd_get (by omega) hk1
  obtain ⟨y, rfl, hy⟩ := kd_get (by omega) hk0
  obtain ⟨cellV, g1, g2, g3, -⟩ := rp_ob rp (by omega) hy
  obtain ⟨hx, hb, hml, hown, hts, -, hK, -⟩ := id C
  have hcls := (hK.1 4 _ rfl).2
  obtain ⟨kA, comp, k1, k2, k3, -⟩ := (hK.2 4 _ rfl).2
  have hcomp : comp = G.2.2.1.1 4 := Option.some.inj (k3.symm.trans hcls.1)
  subst hcomp
  obtain ⟨kC, hkC, -⟩ := hcls.2
  refine W.aast hx hb (rp_ar rp (by omega) hi) (fun q h => by cases h) (fun h => by cases h) k1 k2 rfl hkC ⟨fun q => hk2 (Or.inl q), by rw [arrV_size]; exact ix_lt hk2⟩ g1 (fun q h => by rw [g3] at h; cases h) (by rw [g2]; exact hkC) (by rw [g2]; exact va_assign hcls) rfl rfl d (fun H' a1 a2 a3 => ?_)
  obtain ⟨b1, b2⟩ := rp_st (M := M) (h1 := sR h (j + 2) i.toNatClampNeg (y + 2)) (c := 12) rp sv (by omega) hi a1 a2 a3 rfl (fun _ _ _ => rfl) (fun _ _ _ => rfl) (fun r' hr i => up2_ne hr i) (av_R (G := G) (x := y + 2))
  exact w H' _ b1 b2
/-! new cells -/
theorem va_S.grow {A : Nat → Prop} {H0 H H1 : Heap} {locs : List Loc} (h : va_S A H0 H locs) (z : H1.size = H.size + 1) (o : ∀ q, q < H.size → H1[q]? = H[q]?) : va_S A H0 H1 locs := ⟨by have := h.1; omega, fun q h1 h2 => (o q (Nat.lt_of_lt_of_le h1 h.1)).trans (h.2.1 q h1 h2), h.2.2⟩
/-- what is known of array kind c: its number in tysA, its type, its default -/
theorem s_newa {c t : Nat} {n : Int32} {atype : ArrayType} {ty : FieldType} (hk : ¬ n < 0 ∧ n.toNatClampNeg ≤ 60000) (d : decode K.1 pc = .ok (.newarray atype, 2)) (hty : newarray.typeOf atype = ty) (hw : Cond.arrayClass ty ∈ lw_gd) (ht : ∀ G : xG, (tysA G)[t]? = some (G.2.2.2 c, ty)) (hc : 8 ≤ c ∧ c < 12) (hra : ∀ U cA, va_RA U cA ty = (U.vm.findClass ("[" ++ ty.toString) = some cA)) (hb : componentBytes ty ≤ 8) (hdv : ∀ (G : xG) (N r : Nat), av G (hnew h c N) (hnx h) c r = defaultValue ty) (kk : S em K h0 (pc + 2) L (.ref (hnx h) :: st) (hnew h c n.toNatClampNeg) X) : S em K h0 pc L (.int n :: st) h X := by
  refine S_new (c := c) (n := n.toNatClampNeg) (fun M G C H locs cells slots ls Q rp sv hl hcl hsl w => ?_) kk
  subst hty
  have hks : ksz (c, n.toNatClampNeg) = n.toNatClampNeg := by simp [ksz]; omega
  rw [hks] at hsl w
  obtain ⟨hk1, hk2⟩ := hk
  have hbb : n.toNatClampNeg * componentBytes (newarray.typeOf atype) ≤ 536870912 := Nat.le_trans (Nat.mul_le_mul hk2 hb) (by decide)
  refine va_newaK C.1 C.2.1 (C.2.2.2.2.1 _ hw) rfl d rfl hk1 rfl hbb hcl hsl rfl (fun H1 cA e1 z1 o1 hAr hNm => ?_)
  have hcA : cA = G.2.2.2 c := by
    have := (C.2.2.2.2.2.2.1.2 t _ (ht G)).2
    rw [hra] at this
    exact Option.some.inj (hNm.symm.trans this)
  subst hcA
  have hz := rp.1
  have k2 := w H1 (Rep_new rp z1 o1 (by
    unfold cellOk
    rw [if_neg (by omega), ← hz, e1]
    congr 2
    funext r
    exact (hdv G _ r).symm)) (sv.grow z1 o1)
  rw [hz]
  exact k2
theorem av_new {c N r : Nat} : av G (hnew h c N) (hnx h) c r = if c = 9 then .long 0 else if c = 12 then .null else .int 0 := by
  simp [av, hI, hJ, hR, hnew, cl1, cv]
theorem s_newI {n : Int32} (hk : ¬ n < 0 ∧ n.toNatClampNeg ≤ 60000) (d : decode K.1 pc = .ok (.newarray .int, 2)) (kk : S em K h0 (pc + 2) L (.ref (hnx h) :: st) (hnew h 8 n.toNatClampNeg) X) : S em K h0 pc L (.int n :: st) h X :=
  s_newa (c := 8) (t := 0) hk d rfl (gd_of 60 (by decide +kernel) rfl) (fun _ => rfl) (by omega) (fun _ _ => rfl) (by decide) (fun G N r => av_new) kk
theorem s_newJ {n : Int32} (hk : ¬ n < 0 ∧ n.toNatClampNeg ≤ 60000) (d : decode K.1 pc = .ok (.newarray .long, 2)) (kk : S em K h0 (pc + 2) L (.ref (hnx h) :: st) (hnew h 9 n.toNatClampNeg) X) : S em K h0 pc L (.int n :: st) h X :=
  s_newa (c := 9) (t := 1) hk d rfl (gd_of 59 (by decide +kernel) rfl) (fun _ => rfl) (by omega) (fun _ _ => rfl) (by decide) (fun G N r => av_new) kk
theorem s_newZ {n : Int32} (hk : ¬ n < 0 ∧ n.toNatClampNeg ≤ 60000) (d : decode K.1 pc = .ok (.newarray .boolean, 2)) (kk : S em K h0 (pc + 2) L (.ref (hnx h) :: st) (hnew h 10 n.toNatClampNeg) X) : S em K h0 pc L (.int n :: st) h X :=
  s_newa (c := 10) (t := 2) hk d rfl (gd_of 132 (by decide +kernel) rfl) (fun _ => rfl) (by omega) (fun _ _ => rfl) (by decide) (fun G N r => av_new) kk
theorem s_newB {n : Int32} (hk : ¬ n < 0 ∧ n.toNatClampNeg ≤ 60000) (d : decode K.1 pc = .ok (.newarray .byte, 2)) (kk : S em K h0 (pc + 2) L (.ref (hnx h) :: st) (hnew h 11 n.toNatClampNeg) X) : S em K h0 pc L (.int n :: st) h X :=
  s_newa (c := 11) (t := 3) hk d rfl (gd_of 133 (by decide +kernel) rfl) (fun _ => rfl) (by omega) (fun _ _ => rfl) (by decide) (fun G N r => av_new) kk
theorem s_newS {n : Int32} {index : Nat} (hcl : Cond.classLink (kO K) index "LeastSums$Shape" ∈ lw_gd) (hk : ¬ n < 0 ∧ n.toNatClampNeg ≤ 60000) (d : decode K.1 pc = .ok (.anewarray index, 3)) (kk : S em K h0 (pc + 3) L (.ref (hnx h) :: st) (hnew h 12 n.toNatClampNeg) X) : S em K h0 pc L (.int n :: st) h X := by
  refine S_new (c := 12) (n := n.toNatClampNeg) (fun M G C H locs cells slots ls Q rp sv hl hcel hsl w => ?_) kk
  have hks : ksz (12, n.toNatClampNeg) = n.toNatClampNeg := by simp [ksz]
  rw [hks] at hsl w
  obtain ⟨hk1, hk2⟩ := hk
  obtain ⟨hx, hb, hml, hown, hts, -, hK, -, -, -, -, -, -, hao, -⟩ := id C
  refine W.anew hx hb hown (hts _ hcl) (va_AO.use hao) rfl d rfl hk1 (by omega) hcel hsl (fun cA kA comp f1 f2 f3 f4 => ?_)
  have hcA : cA = G.2.2.2 12 := by
    obtain ⟨kA, comp, k1, k2, k3, k4⟩ := (hK.2 4 _ rfl).2
    exact Option.some.inj (f1.symm.trans k4)
  subst hcA
  generalize hH1 : H.push ({ cls := G.2.2.2 12, slots := Array.replicate n.toNatClampNeg .null, vm := .none } : Cell) = H1
  have z1 : H1.size = H.size + 1 := by rw [← hH1, Array.size_push]
  have e1 : H1[H.size]? = some (arrV (G.2.2.2 12) n.toNatClampNeg (fun _ => .null)) := by rw [← hH1, Array.getElem?_push_size, ← arrV_new]
  have o1 : ∀ q : Nat, q < H.size → H1[q]? = H[q]? := fun q hq => by rw [← hH1, Array.getElem?_push, if_neg (Nat.ne_of_lt hq)]
  have hz := rp.1
  have k2 := w H1 (Rep_new rp z1 o1 (by
    unfold cellOk
    rw [if_neg (by omega), ← hz, e1]
    congr 2
    funext r
    exact (av_new (c := 12)).symm)) (sv.grow z1 o1)
  rw [hz]
  exact k2
/-- new: class c -/
def NT (c : Nat) (own : String) (index : Nat) : Prop := c < 8 ∧ ∃ (C : String) (T : u_T) (N : Nat), vwCl[c]? = some (C, T, N) ∧ nf c = N ∧ (∀ j, j < N → parseFieldDescriptor (T j).2.2.1 = some (tyA c j)) ∧ (∀ w ∈ u_ws C T N, w ∈ lw_gd) ∧ Cond.classLink own index C ∈ lw_gd ∧ Cond.instantiable C N ∈ lw_gd ∧ Cond.initialized C ∈ lw_gd
theorem fv_new {c r k : Nat} : fv G (hnew h c r) (hnx h) c k = if ftc c k = 0 then .int 0 else if ftc c k = 1 then .long 0 else .null := by
  simp [fv, hI, hJ, hR, hnew, cl1, cv]
theorem s_new {c index : Nat} (F : NT c (kO K) index) (hdv : ∀ k, k < nf c → defaultValue (tyA c k) = (if ftc c k = 0 then Value.int 0 else if ftc c k = 1 then .long 0 else .null)) (d : decode K.1 pc = .ok (.new index, 3)) (kk : S em K h0 (pc + 3) L (.ref (hnx h) :: st) (hnew h c 0) X) : S em K h0 pc L st h X := by
  refine S_new (c := c) (n := 0) (fun M G C H locs cells slots ls Q rp sv hl hcel hsl w => ?_) kk
  obtain ⟨c8, Cn, T, N, hc, hN, hty, hin, hcl, hins, hini⟩ := F
  have hks : ksz (c, 0) = N := by simp only [ksz]; rw [if_pos c8, hN]
  rw [hks] at hsl w
  obtain ⟨hx, hb, hml, hown, hts, -, hK, -⟩ := id C
  have hKn := hK.1 c _ hc
  refine W.newcK hx hb hown (hts _ hcl) (hts _ hins) (hts _ hini) rfl d hcel hsl hKn.2.1 rfl (fun H1 kC hkC e1 z1 o1 => ?_)
  have hz := rp.1
  have k2 := w H1 (Rep_new rp z1 o1 (by
    unfold cellOk
    rw [if_pos c8, ← hz, hN]
    exact (u_born (tyA c) hts hin hKn hkC e1 hty).to (fun k hk => by rw [fv_new]; exact hdv k (by omega)))) (sv.grow z1 o1)
  rw [hz]
  exact k2
end HEAPA
