section MORE
variable {ρ : Type} {em : ρ → Option Value} {K : xK} {h0 h : xH} {pc : Nat} {L : List (Nat × Value)} {st : List Value} {X A B : Option (ρ × xH)}
theorem s_aret {x : Nat} {rt : FieldType} (hr : kR K = some rt) (hrt : isRefT rt = true) (d : decode K.1 pc = .ok (.areturn, 1)) : S emR K h0 pc L [.ref x] h (some (x, h)) :=
  S_end (fun M G C H locs cells slots ls hq hf => W.aret (v := cv G (.ref x)) C.1 C.2.1 (C.2.2.2.2.2.2.2.2.2.1.trans hr) (by cases rt <;> first | (cases hrt; done) | exact Or.inl ⟨_, rfl⟩ | exact Or.inr ⟨_, rfl⟩) (by rcases cv_refR (G := G) (x := x) with ⟨a, e⟩ | e; exact Or.inr ⟨a, e⟩; exact Or.inl e) hq hf d C.2.2.2.2.2.1)
theorem s_ldcw {v : Int32} {index : Nat} (hc : Cond.constant (kO K) index v ∈ lw_gd) (d : decode K.1 pc = .ok (.ldc_w index, 3)) (k : S em K h0 (pc + 3) L (.int v :: st) h X) : S em K h0 pc L st h X :=
  S_pure (fun M G C _ _ _ _ ls _ hl w => lv_ldcw C.1 C.2.1 C.2.2.2.1 (C.2.2.2.2.1 _ hc) d w) k
theorem ldcwF {p : Program} {l : Launch} {e : Env} {R : Room} {s : State} {m : MethodId} {args : Array Value} {below : List Frame} {meth : Method} {c : Code} {locs : List Loc} {cells slots : Nat} {T : State} (X : Stand p l e R s m args below meth c T locs cells slots) (hexec : p.tables.exec = Jvm.exec) {own : String} {index : Nat} {v : UInt32} (hown : s.vm.findClass own = some m.cls)
    (hconst : (Cond.constantFloat own index v).before args s = true) {g : JFrame} (hg : g.method = m) (hdg : decode c.code g.pc = .ok (.ldc_w index, 3)) :
    ∀ target, Steps p.tables e below (T.setTop { g with pc := g.pc + 3, stack := .float v :: g.stack }) target → Steps p.tables e below (T.setTop g) target := by
  obtain ⟨k, cf, hk, hcf, hcp⟩ := Cond.constantFloat_spec hown hconst
  obtain ⟨k', hk', he⟩ := X.warmed.alike.2.2 _ _ hk
  intro target hrest
  subst hg
  jvm_step X.here [hexec, hdg, ldc_w.wp_float (s := T) (f := g) X.here.top hk' (by rw [he]; exact hcf) hcp]
  exact hrest
theorem s_ldcwf {v : UInt32} {index : Nat} (hc : Cond.constantFloat (kO K) index v ∈ lw_gd) (d : decode K.1 pc = .ok (.ldc_w index, 3)) (k : S em K h0 (pc + 3) L (.float v :: st) h X) : S em K h0 pc L st h X :=
  S_pure (fun M G C H locs cells slots ls Q hl w => by
    intro T hT X
    obtain ⟨t, a, b⟩ := w T hT X
    exact ⟨t, ldcwF X C.1 C.2.2.2.1 (C.2.2.2.2.1 _ hc) (g := F0 (mm M) pc ls (st.map (cv G))) rfl (by rw [C.2.1]; exact d) t a, b⟩) k
/-! System.arraycopy between two arrays of one kind -/
abbrev cpOk (c : Nat) (h : xH) (src dst : Nat) (sp dp n : Int32) : Prop := kc h src = c ∧ kc h dst = c ∧ ¬ src = dst ∧ ¬ sp < 0 ∧ ¬ dp < 0 ∧ ¬ n < 0 ∧ sp.toNatClampNeg + n.toNatClampNeg ≤ kl h src ∧ dp.toNatClampNeg + n.toNatClampNeg ≤ kl h dst
theorem nnI {z : Int32} (hz : ¬ z < 0) : z.toInt = (z.toNatClampNeg : Int) := by
  have hz0 : (0 : Int) ≤ z.toInt := by
    have := Int32.not_lt.mp hz
    simpa using Int32.le_iff_toInt_le.mp this
  show z.toInt = ((z.toInt.toNat : Nat) : Int)
  omega
theorem s_copy {α : Type} (mk : α → Value) (c t : Nat) (ty : FieldType) (hf : xH → Nat → Nat → α) {src dst : Nat} {sp dp n : Int32} {h1 : xH} {index : Nat} (hk : cpOk c h src dst sp dp n) (hc8 : 8 ≤ c ∧ c < 12) (ht : ∀ G : xG, (tysA G)[t]? = some (G.2.2.2 c, ty)) (hprim : refKind ty = false) (hav : ∀ (G : xG) (g : xH) (r : Nat), av G g r c = fun k => mk (hf g r k)) (hfit : ∀ x : α, fits ty (mk x) = true) (hnr : (∃ g : α → Int32, mk = fun x => .int (g x)) ∨ ∃ g : α → Int64, mk = fun x => .long (g x))
    (e0 : h1.1 = h.1) (e1 : ∀ r', r' ≠ dst → ∀ j, hI h1 r' j = hI h r' j) (e2 : ∀ r', r' ≠ dst → ∀ j, hJ h1 r' j = hJ h r' j) (e3 : ∀ r', r' ≠ dst → ∀ j, hR h1 r' j = hR h r' j) (hcp : ∀ j, hf h1 dst j = va_cpy (hf h src) (hf h dst) sp.toNatClampNeg dp.toNatClampNeg n.toNatClampNeg j)
    (hlink : Cond.methodLink (kO K) index arraycopyName ∈ lw_gd) (hnat : Cond.native arraycopyName ∈ lw_gd) (hst : Cond.static arraycopyName ∈ lw_gd) (hini : Cond.initialized "java/lang/System" ∈ lw_gd) (hroom : 1 ≤ kF K ∧ (st.map fun v => v.category).sum + (nativeFrameWords "java/lang/System" "arraycopy" 5 + 11) ≤ kW K) (d : decode K.1 pc = .ok (.invokestatic index, 3)) (kk : S em K h0 (pc + 3) L st h1 X) : S em K h0 pc L (.int n :: .int dp :: .ref dst :: .int sp :: .ref src :: st) h X := by
  refine S_mut e0 (fun M G C H locs cells slots ls Q rp sv hl w => ?_) kk
  obtain ⟨k0, k1, kne, h1p, h2p, h3p, h4, h5⟩ := hk
  obtain ⟨i, rfl, hi⟩ := kd_get (by omega) k0
  obtain ⟨j, rfl, hj⟩ := kd_get (by omega) k1
  obtain ⟨hx, hb, hml, hown, hts, -, hK, hfr, hlo, -⟩ := id C
  have hc0 := rp_ar rp (by omega) hi
  have hc1 := rp_ar rp (by omega) hj
  rw [hav] at hc0 hc1
  obtain ⟨-, q0, hq0, cm0, hkk0⟩ := C.arr (ht G) (kl h (i + 2)) (fun k => mk (hf h (i + 2) k))
  obtain ⟨-, q1, hq1, cm1, hkk1⟩ := C.arr (ht G) (kl h (j + 2)) (fun k => mk (hf h (j + 2) k))
  intro T hT XS
  obtain ⟨vm', X', step⟩ := XS.arraycopy hx hown (hts _ hlink) (hts _ hnat) (hts _ hst) (hts _ hini) (src := G.1 + i) (dst := G.1 + j) (srcPos := sp) (destPos := dp) (n := n) (by rw [hT]; exact hc0) (by rw [hT]; exact hc1)
    (fun _ h => by cases h) (fun _ h => by cases h) (fun h => by cases h) (fun h => by cases h) hq0 hq1 hkk0 hkk1 (by simp [hprim]) h1p h2p h3p
    (by rw [nnI h1p, nnI h3p, arrV_size]; omega)
    (by rw [nnI h2p, nnI h3p, arrV_size]; omega)
    (fun vm₁ _ a ha => by
      have e : (arrV (G.2.2.2 c) (kl h (i + 2)) (fun k => mk (hf h (i + 2) k))).slots.getD (sp.toNatClampNeg + a) .null = mk (hf h (i + 2) (sp.toNatClampNeg + a)) := by
        rw [Array.getD_eq_getD_getElem?, arrV_read _ _ (by omega)]
        rfl
      refine ⟨?_, ?_⟩
      · rw [e]
        exact hfit _
      · rw [e]
        rcases hnr with ⟨g, rfl⟩ | ⟨g, rfl⟩
        · exact trivial
        · exact trivial)
    (g := F0 (mm M) pc ls (.int n :: .int dp :: .ref (G.1 + j) :: .int sp :: .ref (G.1 + i) :: st.map (cv G))) rfl (by rw [hml]; exact hl.1) (rest := st.map (cv G)) rfl (by rw [hb]; exact d) (by rw [hfr]; exact hroom.1) (by show 2 * 0 + _ + _ ≤ _; rw [cat_sum, hlo]; have := hroom.2; omega)
  have ec : copied (arrV (G.2.2.2 c) (kl h (i + 2)) (fun k => mk (hf h (i + 2) k))) (arrV (G.2.2.2 c) (kl h (j + 2)) (fun k => mk (hf h (j + 2) k))) sp dp n = arrV (G.2.2.2 c) (kl h (j + 2)) (fun k => mk (va_cpy (hf h (i + 2)) (hf h (j + 2)) sp.toNatClampNeg dp.toNatClampNeg n.toNatClampNeg k)) := va_copied mk _ _ _ _ h4
  rw [ec] at X' step
  generalize hcell : arrV (G.2.2.2 c) (kl h (j + 2)) (fun k => mk (va_cpy (hf h (i + 2)) (hf h (j + 2)) sp.toNatClampNeg dp.toNatClampNeg n.toNatClampNeg k)) = cell at X' step
  have hlt : G.1 + j < H.size := (Array.getElem?_eq_some_iff.mp hc1).1
  have hheap : ((T.setVm vm').setCell (G.1 + j) cell).heap = H.setIfInBounds (G.1 + j) cell := by rw [← hT]; rfl
  have oq : ∀ q : Nat, q ≠ G.1 + j → (H.setIfInBounds (G.1 + j) cell)[q]? = H[q]? := fun q hq => by simp [Array.getElem?_setIfInBounds, Ne.symm hq]
  obtain ⟨t, a1, b1⟩ := w (H.setIfInBounds (G.1 + j) cell) _ (Rep_upd j rp (by simp) oq e0 e1 e2 e3 (fun q hq => by
      have hq2 := hj.symm.trans hq
      cases hq2
      unfold cellOk
      rw [if_neg (by omega), hav]
      simp only [Array.getElem?_setIfInBounds, hlt]
      rw [← hcell]
      simp [hcp])) ⟨by simp; exact sv.1, fun q g1 g2 => by
      rw [oq q (fun e => g2 (by rw [e]; exact Nat.le_add_right _ _))]
      exact sv.2.1 q g1 g2, fun q hq => by
      rcases List.mem_append.mp hq with h | h
      · exact sv.2.2 q h
      · obtain ⟨z, -, hz⟩ := List.mem_map.mp h
        rw [← hz]
        exact Nat.le_add_right _ _⟩ _ hheap X'
  exact ⟨t, step t a1, b1⟩
theorem s_copyI {src dst : Nat} {sp dp n : Int32} {index : Nat} (hk : cpOk 8 h src dst sp dp n) (hlink : Cond.methodLink (kO K) index arraycopyName ∈ lw_gd) (hnat : Cond.native arraycopyName ∈ lw_gd) (hst : Cond.static arraycopyName ∈ lw_gd) (hini : Cond.initialized "java/lang/System" ∈ lw_gd) (hroom : 1 ≤ kF K ∧ (st.map fun v => v.category).sum + (nativeFrameWords "java/lang/System" "arraycopy" 5 + 11) ≤ kW K) (d : decode K.1 pc = .ok (.invokestatic index, 3)) (kk : S em K h0 (pc + 3) L st (cpI h src sp.toNatClampNeg dst dp.toNatClampNeg n.toNatClampNeg) X) : S em K h0 pc L (.int n :: .int dp :: .ref dst :: .int sp :: .ref src :: st) h X :=
  s_copy (fun x : Int32 => .int x) 8 0 .int hI (h1 := cpI h src sp.toNatClampNeg dst dp.toNatClampNeg n.toNatClampNeg) hk (by omega) (fun _ => rfl) rfl (fun _ _ _ => rfl) (fun _ => rfl) (Or.inl ⟨id, rfl⟩) rfl (fun r' hr j => by simp [cpI, hI, cp2, hr]) (fun _ _ _ => rfl) (fun _ _ _ => rfl) (fun j => by simp [cpI, hI, cp2, va_cpy]) hlink hnat hst hini hroom d kk
theorem s_copyJ {src dst : Nat} {sp dp n : Int32} {index : Nat} (hk : cpOk 9 h src dst sp dp n) (hlink : Cond.methodLink (kO K) index arraycopyName ∈ lw_gd) (hnat : Cond.native arraycopyName ∈ lw_gd) (hst : Cond.static arraycopyName ∈ lw_gd) (hini : Cond.initialized "java/lang/System" ∈ lw_gd) (hroom : 1 ≤ kF K ∧ (st.map fun v => v.category).sum + (nativeFrameWords "java/lang/System" "arraycopy" 5 + 11) ≤ kW K) (d : decode K.1 pc = .ok (.invokestatic index, 3)) (kk : S em K h0 (pc + 3) L st (cpJ h src sp.toNatClampNeg dst dp.toNatClampNeg n.toNatClampNeg) X) : S em K h0 pc L (.int n :: .int dp :: .ref dst :: .int sp :: .ref src :: st) h X :=
  s_copy (fun x : Int64 => .long x) 9 1 .long hJ (h1 := cpJ h src sp.toNatClampNeg dst dp.toNatClampNeg n.toNatClampNeg) hk (by omega) (fun _ => rfl) rfl (fun _ _ _ => rfl) (fun _ => rfl) (Or.inr ⟨id, rfl⟩) rfl (fun _ _ _ => rfl) (fun r' hr j => by simp [cpJ, hJ, cp2, hr]) (fun _ _ _ => rfl) (fun j => by simp [cpJ, hJ, cp2, va_cpy]) hlink hnat hst hini hroom d kk
end MORE
