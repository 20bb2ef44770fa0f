section CALLS
variable {ρ : Type} {em : ρ → Option Value} {M : xM} {G : xG} {K : xK} {h0 h : xH} {pc : Nat} {L : List (Nat × Value)} {st : List Value} {X A B : Option (ρ × xH)}
/-! ends -/
def emI : Int32 → Option Value := fun x => some (.int x)
def emJ : Int64 → Option Value := fun x => some (.long x)
def emR : Nat → Option Value := fun x => some (.ref x)
def emV : Unit → Option Value := fun _ => none
theorem S_end {v : ρ} (hw : ∀ (M : xM) (G : xG), Cx M G K → ∀ (H : Heap) (locs : List Loc) (cells slots : Nat) (ls : Array Slot), (∀ t : State, t.heap = H → (ms M).WarmedH t.vm → Qc G (em v) h (ma M) (ms M) (.returned ((em v).map (cv G))) t) → (∀ q ∈ locs, G.1 ≤ q.base) → xW M H locs cells slots (MQ (mb M) (Qc G (em v) h) (ma M) (ms M) cells slots (fun q => G.1 ≤ q)) (F0 (mm M) pc ls (st.map (cv G)))) : S em K h0 pc L st h (some (v, h)) := by
  intro r h' hX
  cases hX
  refine ⟨Le.rf h, fun M G C a1 a2 a3 H locs ls b1 b2 b3 => hw M G C H locs _ _ ls (fun t ht hW => ⟨rfl, by rw [ht]; exact b1, b2.F ht⟩) (fun q hq => b2.2.2 q hq)⟩
theorem s_iret {x : Int32} (hr : kR K = some .int) (d : decode K.1 pc = .ok (.ireturn, 1)) : S emI K h0 pc L [.int x] h (some (x, h)) :=
  S_end (fun M G C H locs cells slots ls hq hf => W.iret C.1 C.2.1 (C.2.2.2.2.2.2.2.2.2.1.trans hr) hq hf d C.2.2.2.2.2.1)
theorem s_zret {x : Int32} (hx : x = 0 ∨ x = 1) (hr : kR K = some .boolean) (d : decode K.1 pc = .ok (.ireturn, 1)) : S emI K h0 pc L [.int x] h (some (x, h)) :=
  S_end (fun M G C H locs cells slots ls hq hf => W.zret C.1 C.2.1 (C.2.2.2.2.2.2.2.2.2.1.trans hr) (by rcases hx with rfl | rfl <;> rfl) hq hf d C.2.2.2.2.2.1)
theorem s_lret {x : Int64} (hr : kR K = some .long) (d : decode K.1 pc = .ok (.lreturn, 1)) : S emJ K h0 pc L [.long x] h (some (x, h)) :=
  S_end (fun M G C H locs cells slots ls hq hf => W.lret C.1 C.2.1 (C.2.2.2.2.2.2.2.2.2.1.trans hr) hq hf d C.2.2.2.2.2.1)
theorem s_vret (hr : kR K = none) (d : decode K.1 pc = .ok (.return_, 1)) : S emV K h0 pc L [] h (some ((), h)) :=
  S_end (fun M G C H locs cells slots ls hq hf => W.vret C.1 C.2.1 (C.2.2.2.2.2.2.2.2.2.1.trans hr) hq hf d C.2.2.2.2.2.1)
/-! entry -/
theorem lg_len (as : List Value) : (lg_sl (as.map (cv G))).length = (lg_sl as).length := by
  induction as with
  | nil => rfl
  | cons v vs ih =>
    simp only [lg_sl, List.map_cons, List.flatMap_cons, List.length_append] at ih ⊢
    rw [ih, cv_cat]
    by_cases hc : v.category = 2 <;> simp [hc]
theorem lv_cq (as : List Value) : ∀ i, lv_args i (as.map (cv G)) = (lv_args i as).map (cq G) := by
  induction as with
  | nil => intro i; rfl
  | cons v vs ih =>
    intro i
    simp only [List.map_cons, lv_args, cv_cat]
    rw [ih]
    rfl
/-- what a method does, as a function of its arguments and the heap -/
def Ct (y : MethodName) (K : xK) (em : ρ → Option Value) (as : List Value) (h : xH) (f : Option (ρ × xH)) : Prop := ∀ r h', f = some (r, h') → Le h h' ∧ ∀ (l : Launch) (G : xG), Met l y (.code y K.1 (kL K) (kR K) :: lw_gd) ({ frames := kF K, cells := cnt h' - cnt h, slots := siz h' - siz h, locals := kW K } : Room) (Pc G as h) (Qc G (em r) h') (cnt h' - cnt h) (siz h' - siz h) (fA G)
theorem Ct_of {y : MethodName} {as : List Value} (hy : plainFor y = true) (hO : kO K = y.cls) (hN : kN K = y.name) (hS : kS K = none) (hal : (lg_sl as).length ≤ kL K) (hL : lv_args 0 as = L) (body : S em K h 0 L [] h X) : Ct y K em as h X := by
  intro r h' hX
  obtain ⟨le, k⟩ := body r h' hX
  refine ⟨le, fun l G => ?_⟩
  refine va_MetF (cc := K.1) (maxL := kL K) (ret := kR K) hy rfl ?_
  intro p e s m args below meth c s₁ B hml hv
  obtain ⟨rfl, rp, hK, hnest, hao⟩ := hv
  have hts := atoms_spec (ws := .code y K.1 (kL K) (kR K) :: lw_gd) B.pre
  have hl := lv_entry (as.map (cv G)) (n := kL K) (by rw [lg_len]; exact hal)
  rw [lv_cq, hL] at hl
  rw [lg_entry_eq]
  have k2 := k (p, l, e, ({ frames := kF K, cells := cnt h' - cnt h, slots := siz h' - siz h, locals := kW K } : Room), s, m, (as.map (cv G)).toArray, below, meth, c) G ⟨B.exec, B.bytes, hml, by rw [hO]; exact findClass_of_methodNamed B.named, fun w hw => hts w (List.mem_cons_of_mem _ hw), B.notSynchronized, hK, rfl, rfl, B.returns, fun _ => by rw [hN]; exact (name_of_methodNamed B.named B.method).1, by show G.1 ≤ s.heap.size; rw [rp.1]; exact Nat.le_add_right _ _, hnest, hao, fun q hq => by rw [hS] at hq; cases hq⟩ (Nat.le_refl _) (Nat.le_refl _) (Le.rf h) s.heap [] _ rp va_S.rf hl
  rw [Nat.sub_self, Nat.sub_self] at k2
  exact k2
/-! calls -/
def bd {α β : Type} (f : Option (α × xH)) (k : α → xH → Option β) : Option β := match f with
  | some q => k q.1 q.2
  | none => none
theorem S_call {ρ' : Type} {em' : ρ' → Option Value} {f : Option (ρ' × xH)} {k : ρ' → xH → Option (ρ × xH)} {stk : List Value} (hrun : ∀ r h1, f = some (r, h1) → Le h h1 ∧ ∀ (M : xM) (G : xG), Cx M G K → ∀ (H : Heap) (locs : List Loc) (cells slots : Nat) (ls : Array Slot), Rep G h H → va_S (fA G) (ms M).heap H locs → lv_has ls (kL K) (L.map (cq G)) → cells + (cnt h1 - cnt h) ≤ (mR M).cells → slots + (siz h1 - siz h) ≤ (mR M).slots → ∃ a : Array Value, va_Run M.1 M.2.1 M.2.2.1 (mR M) (ms M) (mm M) (ma M) (mb M) (mt M) (mc M) H locs cells slots (cnt h1 - cnt h) (siz h1 - siz h) (F0 (mm M) pc ls (stk.map (cv G))) (st.map (cv G)) (Qc G (em' r) h1 a) (fA G)) (kk : ∀ r h1, Le h h1 → S em K h0 (pc + 3) L ((em' r).toList ++ st) h1 (k r h1)) : S em K h0 pc L stk h (bd f k) := by
  intro r' h' hX
  cases hf : f with
  | none => rw [hf] at hX; cases hX
  | some q =>
    obtain ⟨r, h1⟩ := q
    rw [hf] at hX
    obtain ⟨le1, run⟩ := hrun r h1 hf
    obtain ⟨le, k2⟩ := kk r h1 le1 r' h' hX
    refine ⟨le1.tr le, fun M G C a1 a2 a3 H locs ls b1 b2 b3 => ?_⟩
    have n1 := le.c
    have n2 := le.s
    have n3 := le1.c
    have n4 := le1.s
    have n5 := a3.c
    have n6 := a3.s
    intro T hT X
    obtain ⟨a, run⟩ := run M G C H locs (cnt h - cnt h0) (siz h - siz h0) ls b1 b2 b3 (by omega) (by omega)
    obtain ⟨v, st₀, t, T', Lc, e0, X', hLc, e1, e2, hq, stp⟩ := run T hT X
    obtain ⟨hv, rp, hz, hkp⟩ := hq
    have hv := Outcome.returned.inj hv
    subst hv
    rw [e0] at hz hkp
    have k3 := k2 M G C a1 a2 (a3.tr le1) T'.heap (locs ++ Lc) ls (by rw [e1]; exact rp) ⟨Nat.le_trans b2.1 (by rw [e1]; exact hz), fun q h1 h2 => by rw [e1, hkp q (Nat.lt_of_lt_of_le h1 b2.1) h2]; exact b2.2.1 q h1 h2, fun q hq => by
      rcases List.mem_append.mp hq with h | h
      · exact b2.2.2 q h
      · exact hLc q h⟩ b3
    rw [show cnt h1 - cnt h0 = cnt h - cnt h0 + (cnt h1 - cnt h) by omega, show siz h1 - siz h0 = siz h - siz h0 + (siz h1 - siz h) by omega] at k3
    obtain ⟨t2, c1, c2⟩ := k3 T' rfl X'
    refine ⟨t2, stp t2 ?_, c2⟩
    have hs : ((em' r).map (cv G)).toList ++ st.map (cv G) = ((em' r).toList ++ st).map (cv G) := by cases em' r <;> simp
    rw [hs]
    exact c1
/-- words of a call: own's pool entry index links y -/
abbrev rmK (K' : xK) (h h1 : xH) : Room := { frames := kF K', cells := cnt h1 - cnt h, slots := siz h1 - siz h, locals := kW K' }
theorem preOk {as : List Value} {M : xM} {G : xG} (C : Cx M G K) {H : Heap} (rp : Rep G h H) : ∀ U : State, U.heap = H → (ms M).WarmedH U.vm → Pc G as h (as.map (cv G)).toArray U := fun U hU hW => ⟨rfl, by rw [hU]; exact rp, va_K.moved hW.alike C.2.2.2.2.2.2.1, fun a i x b hm => va_Nw.warmM hW (C.2.2.2.2.2.2.2.2.2.2.2.2.1 a i x b hm), va_AO.moved hW.alike C.2.2.2.2.2.2.2.2.2.2.2.2.2.1⟩
/-- a virtual call of class c's own method -/
def VW (c : Nat) (own : String) (index : Nat) (y : MethodName) (K' : xK) (n : Nat) : Prop := c < 8 ∧ (∃ (T : u_T) (N : Nat), vwCl[c]? = some (y.cls, T, N)) ∧ Cond.methodLink own index y ∈ lw_gd ∧ Cond.instanceMethod y ∈ lw_gd ∧ Cond.selects y.cls y y ∈ lw_gd ∧ Cond.initialized y.cls ∈ lw_gd ∧ Cond.code y K'.1 (kL K') (kR K') ∈ lw_gd ∧ (y.cls ≠ "java/lang/invoke/MethodHandle" ∧ y.cls ≠ "java/lang/invoke/VarHandle" ∧ (parseMethodDescriptor y.desc).map (fun d => d.parameters.length) = some n)
def SW (own : String) (index : Nat) (y : MethodName) (K' : xK) (n : Nat) : Prop := Cond.methodLink own index y ∈ lw_gd ∧ Cond.static y ∈ lw_gd ∧ Cond.initialized y.cls ∈ lw_gd ∧ Cond.code y K'.1 (kL K') (kR K') ∈ lw_gd ∧ (y.cls ≠ "java/lang/invoke/MethodHandle" ∧ y.cls ≠ "java/lang/invoke/VarHandle" ∧ (parseMethodDescriptor y.desc).map (fun d => d.parameters.length) = some n)
def NW (own : String) (index : Nat) (host : String) (y : MethodName) (K' : xK) (n : Nat) : Prop := Cond.methodLinkNest own index y host ∈ tables_1 ∧ Cond.initialized y.cls ∈ lw_gd ∧ Cond.code y K'.1 (kL K') (kR K') ∈ lw_gd ∧ (y.cls ≠ "java/lang/invoke/MethodHandle" ∧ y.cls ≠ "java/lang/invoke/VarHandle" ∧ (parseMethodDescriptor y.desc).map (fun d => d.parameters.length) = some n)
def IW (own : String) (index : Nat) (y : MethodName) (K' : xK) (n : Nat) : Prop := Cond.methodLink own index y ∈ lw_gd ∧ Cond.instanceMethod y ∈ lw_gd ∧ Cond.initialized y.cls ∈ lw_gd ∧ y.name = "<init>" ∧ Cond.code y K'.1 (kL K') (kR K') ∈ lw_gd ∧ (y.cls ≠ "java/lang/invoke/MethodHandle" ∧ y.cls ≠ "java/lang/invoke/VarHandle" ∧ (parseMethodDescriptor y.desc).map (fun d => d.parameters.length) = some n)
theorem gd_ws {y : MethodName} {K' : xK} (hc : Cond.code y K'.1 (kL K') (kR K') ∈ lw_gd) : GoodIn lw_gd (.code y K'.1 (kL K') (kR K') :: lw_gd) := fun w hw => by
  rcases List.mem_cons.mp hw with rfl | hw
  · exact gd_good _ hc
  · exact gd_good _ hw
theorem cat_sum (st : List Value) : ((st.map (cv G)).map fun v => v.category).sum = (st.map fun v => v.category).sum := by
  rw [List.map_map]
  congr 1
  exact List.map_congr_left (fun v _ => cv_cat G v)
abbrev fitsIn (K' K : xK) (st : List Value) : Prop := (kF K' + 1 ≤ kF K ∧ 8 + (kL K' + 11) + kW K' ≤ kW K) ∧ (st.map fun v => v.category).sum ≤ 8
theorem s_callV {ρ' : Type} {em' : ρ' → Option Value} {y : MethodName} {K' : xK} {c n index rr : Nat} {As : List Value} {f : Option (ρ' × xH)} {k : ρ' → xH → Option (ρ × xH)} (ct : Ct y K' em' (.ref rr :: As) h f) (hk : kc h rr = c) (V : VW c (kO K) index y K' n) (hn : As.length = n) (hfit : fitsIn K' K st) (d : decode K.1 pc = .ok (.invokevirtual index, 3)) (kk : ∀ r h1, Le h h1 → S em K h0 (pc + 3) L ((em' r).toList ++ st) h1 (k r h1)) : S em K h0 pc L (As.reverse ++ .ref rr :: st) h (bd f k) := by
  refine S_call (em' := em') (fun r h1 hf => ?_) kk
  obtain ⟨le, mt⟩ := ct r h1 hf
  refine ⟨le, fun M G C H locs cells slots ls rp sv hl hce hsl => ?_⟩
  obtain ⟨c8, ⟨T, N, hc⟩, w1, w2, w3, w4, w5, w6⟩ := V
  obtain ⟨i, rfl, hi⟩ := kd_get (by omega) hk
  obtain ⟨cell, g1, g2, g3, -⟩ := rp_ob rp c8 hi
  obtain ⟨hx, hb, hml, hown, hts, -, hK, hfr, hlo, -⟩ := id C
  have hts2 : ∀ w ∈ lw_gd, w.before (ma M) (ms M) = true := hts
  exact ⟨_, va_runV (b := G.1 + i) (As := As.map (cv G)) (C := y.cls) (n := n) (index := index) (nL := kL K) ⟨hx, hb, hml, hown, hts⟩ (mt M.2.1 G) ⟨callB_of n hts (gd_ws w5) rfl rfl rfl (hts _ w4) (hts _ w1) w6 ⟨by show kF K' + 1 ≤ (mR M).frames; rw [hfr]; exact hfit.1.1, by show _ ≤ (mR M).locals; rw [hlo]; exact hfit.1.2⟩, hts _ w2, hts _ w3⟩ ⟨Pc_blind G _ h, ⟨cell, g1, by rw [g3]; rfl, by rw [g2]; exact (hK.1 c _ hc).2.1⟩, preOk C rp⟩ rfl (by rw [List.length_map]; exact hn) hl.1 (by simp [List.map_reverse]; rfl) (lv_room (by rw [cat_sum]; exact hfit.2)) d ⟨hce, hsl⟩⟩
theorem s_callS {ρ' : Type} {em' : ρ' → Option Value} {y : MethodName} {K' : xK} {n index : Nat} {As : List Value} {f : Option (ρ' × xH)} {k : ρ' → xH → Option (ρ × xH)} (ct : Ct y K' em' As h f) (V : SW (kO K) index y K' n) (hn : As.length = n) (hfit : fitsIn K' K st) (d : decode K.1 pc = .ok (.invokestatic index, 3)) (kk : ∀ r h1, Le h h1 → S em K h0 (pc + 3) L ((em' r).toList ++ st) h1 (k r h1)) : S em K h0 pc L (As.reverse ++ st) h (bd f k) := by
  refine S_call (em' := em') (fun r h1 hf => ?_) kk
  obtain ⟨le, mt⟩ := ct r h1 hf
  refine ⟨le, fun M G C H locs cells slots ls rp sv hl hce hsl => ?_⟩
  obtain ⟨w1, w2, w4, w5, w6⟩ := V
  obtain ⟨hx, hb, hml, hown, hts, -, hK, hfr, hlo, -⟩ := id C
  exact ⟨_, va_runS (As := As.map (cv G)) (n := n) (index := index) (nL := kL K) ⟨hx, hb, hml, hown, hts⟩ (mt M.2.1 G) ⟨callB_of n hts (gd_ws w5) rfl rfl rfl (hts _ w4) (hts _ w1) w6 ⟨by show kF K' + 1 ≤ (mR M).frames; rw [hfr]; exact hfit.1.1, by show _ ≤ (mR M).locals; rw [hlo]; exact hfit.1.2⟩, hts _ w2⟩ ⟨Pc_blind G _ h, preOk C rp⟩ rfl (by rw [List.length_map]; exact hn) hl.1 (by simp [List.map_reverse]) (lv_room (by rw [cat_sum]; exact hfit.2)) d ⟨hce, hsl⟩⟩
theorem s_callSN {ρ' : Type} {em' : ρ' → Option Value} {y : MethodName} {K' : xK} {n index : Nat} {host : String} {As : List Value} {f : Option (ρ' × xH)} {k : ρ' → xH → Option (ρ × xH)} (ct : Ct y K' em' As h f) (V : NW (kO K) index host y K' n) (hst : Cond.static y ∈ lw_gd) (hn : As.length = n) (hfit : fitsIn K' K st) (d : decode K.1 pc = .ok (.invokestatic index, 3)) (kk : ∀ r h1, Le h h1 → S em K h0 (pc + 3) L ((em' r).toList ++ st) h1 (k r h1)) : S em K h0 pc L (As.reverse ++ st) h (bd f k) := by
  refine S_call (em' := em') (fun r h1 hf => ?_) kk
  obtain ⟨le, mt⟩ := ct r h1 hf
  refine ⟨le, fun M G C H locs cells slots ls rp sv hl hce hsl => ?_⟩
  obtain ⟨w1, w4, w5, w6⟩ := V
  obtain ⟨hx, hb, hml, hown, hts, -, hK, hfr, hlo, -, -, -, hnest, -⟩ := id C
  exact ⟨_, va_runSN (As := As.map (cv G)) (n := n) (index := index) (nL := kL K) ⟨hx, hb, hml, hown, hts⟩ (mt M.2.1 G) ⟨va_cnB n hts (gd_ws w5) rfl rfl rfl (hnest _ _ _ _ w1) (hts _ w4) w6 ⟨by show kF K' + 1 ≤ (mR M).frames; rw [hfr]; exact hfit.1.1, by show _ ≤ (mR M).locals; rw [hlo]; exact hfit.1.2⟩, hts _ hst, trivial⟩ ⟨Pc_blind G _ h, preOk C rp⟩ rfl (by rw [List.length_map]; exact hn) hl.1 (by simp [List.map_reverse]) (lv_room (by rw [cat_sum]; exact hfit.2)) d ⟨hce, hsl⟩⟩
theorem s_callI {ρ' : Type} {em' : ρ' → Option Value} {y : MethodName} {K' : xK} {n index rr : Nat} {As : List Value} {f : Option (ρ' × xH)} {k : ρ' → xH → Option (ρ × xH)} (ct : Ct y K' em' (.ref rr :: As) h f) (hk : 2 ≤ rr) (hrn : kR K' = none) (V : IW (kO K) index y K' n) (hn : As.length = n) (hfit : fitsIn K' K st) (d : decode K.1 pc = .ok (.invokespecial index, 3)) (kk : ∀ r h1, Le h h1 → S em K h0 (pc + 3) L ((em' r).toList ++ st) h1 (k r h1)) : S em K h0 pc L (As.reverse ++ .ref rr :: st) h (bd f k) := by
  refine S_call (em' := em') (fun r h1 hf => ?_) kk
  obtain ⟨le, mt⟩ := ct r h1 hf
  refine ⟨le, fun M G C H locs cells slots ls rp sv hl hce hsl => ?_⟩
  obtain ⟨w1, w2, w4, w3, w5, w6⟩ := V
  obtain ⟨i, rfl⟩ : ∃ i, rr = i + 2 := ⟨rr - 2, by omega⟩
  obtain ⟨hx, hb, hml, hown, hts, -, hK, hfr, hlo, -⟩ := id C
  have mt := mt M.2.1 G
  rw [hrn] at mt w5
  exact ⟨_, va_runI (b := G.1 + i) (As := As.map (cv G)) (n := n) (index := index) (nL := kL K) ⟨hx, hb, hml, hown, hts⟩ mt ⟨callB_of n hts (fun w hw => by
    rcases List.mem_cons.mp hw with rfl | hw
    · exact gd_good _ w5
    · exact gd_good _ hw) rfl rfl rfl (hts _ w4) (hts _ w1) w6 ⟨by show kF K' + 1 ≤ (mR M).frames; rw [hfr]; exact hfit.1.1, by show _ ≤ (mR M).locals; rw [hlo]; exact hfit.1.2⟩, w3, hts _ w2⟩ ⟨Pc_blind G _ h, preOk C rp⟩ rfl (by rw [List.length_map]; exact hn) hl.1 (by simp [List.map_reverse]; rfl) (lv_room (by rw [cat_sum]; exact hfit.2)) d ⟨hce, hsl⟩⟩
theorem s_callIN {ρ' : Type} {em' : ρ' → Option Value} {y : MethodName} {K' : xK} {n index rr : Nat} {host : String} {As : List Value} {f : Option (ρ' × xH)} {k : ρ' → xH → Option (ρ × xH)} (ct : Ct y K' em' (.ref rr :: As) h f) (hk : 2 ≤ rr) (hrn : kR K' = none) (V : NW (kO K) index host y K' n) (hyn : y.name = "<init>") (hst : Cond.instanceMethod y ∈ lw_gd) (hn : As.length = n) (hfit : fitsIn K' K st) (d : decode K.1 pc = .ok (.invokespecial index, 3)) (kk : ∀ r h1, Le h h1 → S em K h0 (pc + 3) L ((em' r).toList ++ st) h1 (k r h1)) : S em K h0 pc L (As.reverse ++ .ref rr :: st) h (bd f k) := by
  refine S_call (em' := em') (fun r h1 hf => ?_) kk
  obtain ⟨le, mt⟩ := ct r h1 hf
  refine ⟨le, fun M G C H locs cells slots ls rp sv hl hce hsl => ?_⟩
  obtain ⟨w1, w4, w5, w6⟩ := V
  obtain ⟨i, rfl⟩ : ∃ i, rr = i + 2 := ⟨rr - 2, by omega⟩
  obtain ⟨hx, hb, hml, hown, hts, -, hK, hfr, hlo, -, -, -, hnest, -⟩ := id C
  have mt := mt M.2.1 G
  rw [hrn] at mt w5
  exact ⟨_, va_runIN (b := G.1 + i) (As := As.map (cv G)) (n := n) (index := index) (nL := kL K) ⟨hx, hb, hml, hown, hts⟩ mt ⟨va_cnB n hts (fun w hw => by
    rcases List.mem_cons.mp hw with rfl | hw
    · exact gd_good _ w5
    · exact gd_good _ hw) rfl rfl rfl (hnest _ _ _ _ w1) (hts _ w4) w6 ⟨by show kF K' + 1 ≤ (mR M).frames; rw [hfr]; exact hfit.1.1, by show _ ≤ (mR M).locals; rw [hlo]; exact hfit.1.2⟩, hyn, hts _ hst⟩ ⟨Pc_blind G _ h, preOk C rp⟩ rfl (by rw [List.length_map]; exact hn) hl.1 (by simp [List.map_reverse]; rfl) (lv_room (by rw [cat_sum]; exact hfit.2)) d ⟨hce, hsl⟩⟩
theorem s_objInit {index rr : Nat} (hk : 2 ≤ rr) (hlink : Cond.methodLink (kO K) index objectInit ∈ lw_gd) (hins : Cond.instanceMethod objectInit ∈ lw_gd) (hcode : Cond.code objectInit ⟨#[0xb1]⟩ 1 none ∈ lw_gd) (hfit : 1 ≤ kF K ∧ 12 ≤ kW K) (d : decode K.1 pc = .ok (.invokespecial index, 3)) (kk : S em K h0 (pc + 3) L [] h X) : S em K h0 pc L [.ref rr] h X := by
  refine S_pure (fun M G C H locs cells slots ls Q hl w => ?_) kk
  obtain ⟨i, rfl⟩ : ∃ i, rr = i + 2 := ⟨rr - 2, by omega⟩
  obtain ⟨hx, hb, hml, hown, hts, -, hK, hfr, hlo, -⟩ := id C
  exact W.objInit hx hb hown (hts _ hlink) (hts _ hins) (hts _ hcode) rfl (hl.1.trans hml.symm) (a := G.1 + i) (rest := []) rfl d (by rw [hfr]; exact hfit.1) (by show 2 * 0 + 0 + 12 ≤ _; rw [hlo]; exact hfit.2) w
theorem s_f2b {index : Nat} {b : UInt32} (hlink : Cond.methodLink (kO K) index ⟨"java/lang/Float", "floatToRawIntBits", "(F)I"⟩ ∈ lw_gd) (hnat : Cond.native ⟨"java/lang/Float", "floatToRawIntBits", "(F)I"⟩ ∈ lw_gd) (hst : Cond.static ⟨"java/lang/Float", "floatToRawIntBits", "(F)I"⟩ ∈ lw_gd) (hini : Cond.initialized "java/lang/Float" ∈ lw_gd) (hfit : 1 ≤ kF K ∧ 15 ≤ kW K) (d : decode K.1 pc = .ok (.invokestatic index, 3)) (kk : S em K h0 (pc + 3) L [.int b.toInt32] h X) : S em K h0 pc L [.float b] h X := by
  refine S_pure (fun M G C H locs cells slots ls Q hl w => ?_) kk
  obtain ⟨hx, hb, hml, hown, hts, -, hK, hfr, hlo, -⟩ := id C
  exact vn_f2i hx hb (hml.trans hl.1.symm) hown (hts _ hlink) (hts _ hnat) (hts _ hst) (hts _ hini) (by rw [hfr]; exact hfit.1) (by show 0 + 15 ≤ _; rw [hlo]; omega) d w
/-! the same, with what is pushed in sight -/
theorem s_cV {ρ' : Type} {em' : ρ' → Option Value} {y : MethodName} {K' : xK} {c n index rr : Nat} {stk : List Value} {ps : ρ' → List Value} {f : Option (ρ' × xH)} {k : ρ' → xH → Option (ρ × xH)} (As : List Value) (ct : Ct y K' em' (.ref rr :: As) h f) (hk : kc h rr = c) (V : VW c (kO K) index y K' n) (hn : As.length = n) (hfit : fitsIn K' K st) (hs : As.reverse ++ .ref rr :: st = stk) (hp : ∀ r, (em' r).toList = ps r) (d : decode K.1 pc = .ok (.invokevirtual index, 3)) (kk : ∀ r h1, Le h h1 → S em K h0 (pc + 3) L (ps r ++ st) h1 (k r h1)) : S em K h0 pc L stk h (bd f k) := by
  subst hs
  exact s_callV ct hk V hn hfit d (fun r h1 le => by rw [hp]; exact kk r h1 le)
theorem s_cVi {y : MethodName} {K' : xK} {c n index rr : Nat} {stk : List Value} {f : Option (Int32 × xH)} {k : Int32 → xH → Option (ρ × xH)} (As : List Value) (ct : Ct y K' emI (.ref rr :: As) h f) (hk : kc h rr = c) (V : VW c (kO K) index y K' n) (hn : As.length = n) (hfit : fitsIn K' K st) (hs : As.reverse ++ .ref rr :: st = stk) (d : decode K.1 pc = .ok (.invokevirtual index, 3)) (kk : ∀ r h1, Le h h1 → S em K h0 (pc + 3) L (.int r :: st) h1 (k r h1)) : S em K h0 pc L stk h (bd f k) := s_cV (ps := fun r => [.int r]) As ct hk V hn hfit hs (fun _ => rfl) d kk
theorem s_cVj {y : MethodName} {K' : xK} {c n index rr : Nat} {stk : List Value} {f : Option (Int64 × xH)} {k : Int64 → xH → Option (ρ × xH)} (As : List Value) (ct : Ct y K' emJ (.ref rr :: As) h f) (hk : kc h rr = c) (V : VW c (kO K) index y K' n) (hn : As.length = n) (hfit : fitsIn K' K st) (hs : As.reverse ++ .ref rr :: st = stk) (d : decode K.1 pc = .ok (.invokevirtual index, 3)) (kk : ∀ r h1, Le h h1 → S em K h0 (pc + 3) L (.long r :: st) h1 (k r h1)) : S em K h0 pc L stk h (bd f k) := s_cV (ps := fun r => [.long r]) As ct hk V hn hfit hs (fun _ => rfl) d kk
theorem s_cVr {y : MethodName} {K' : xK} {c n index rr : Nat} {stk : List Value} {f : Option (Nat × xH)} {k : Nat → xH → Option (ρ × xH)} (As : List Value) (ct : Ct y K' emR (.ref rr :: As) h f) (hk : kc h rr = c) (V : VW c (kO K) index y K' n) (hn : As.length = n) (hfit : fitsIn K' K st) (hs : As.reverse ++ .ref rr :: st = stk) (d : decode K.1 pc = .ok (.invokevirtual index, 3)) (kk : ∀ r h1, Le h h1 → S em K h0 (pc + 3) L (.ref r :: st) h1 (k r h1)) : S em K h0 pc L stk h (bd f k) := s_cV (ps := fun r => [.ref r]) As ct hk V hn hfit hs (fun _ => rfl) d kk
theorem s_cVv {y : MethodName} {K' : xK} {c n index rr : Nat} {stk : List Value} {f : Option (Unit × xH)} {k : Unit → xH → Option (ρ × xH)} (As : List Value) (ct : Ct y K' emV (.ref rr :: As) h f) (hk : kc h rr = c) (V : VW c (kO K) index y K' n) (hn : As.length = n) (hfit : fitsIn K' K st) (hs : As.reverse ++ .ref rr :: st = stk) (d : decode K.1 pc = .ok (.invokevirtual index, 3)) (kk : ∀ r h1, Le h h1 → S em K h0 (pc + 3) L st h1 (k r h1)) : S em K h0 pc L stk h (bd f k) := s_cV (ps := fun _ => []) As ct hk V hn hfit hs (fun _ => rfl) d kk
theorem s_cS {ρ' : Type} {em' : ρ' → Option Value} {y : MethodName} {K' : xK} {n index : Nat} {stk : List Value} {ps : ρ' → List Value} {f : Option (ρ' × xH)} {k : ρ' → xH → Option (ρ × xH)} (As : List Value) (ct : Ct y K' em' As h f) (V : SW (kO K) index y K' n) (hn : As.length = n) (hfit : fitsIn K' K st) (hs : As.reverse ++ st = stk) (hp : ∀ r, (em' r).toList = ps r) (d : decode K.1 pc = .ok (.invokestatic index, 3)) (kk : ∀ r h1, Le h h1 → S em K h0 (pc + 3) L (ps r ++ st) h1 (k r h1)) : S em K h0 pc L stk h (bd f k) := by
  subst hs
  exact s_callS ct V hn hfit d (fun r h1 le => by rw [hp]; exact kk r h1 le)
theorem s_cSi {y : MethodName} {K' : xK} {n index : Nat} {stk : List Value} {f : Option (Int32 × xH)} {k : Int32 → xH → Option (ρ × xH)} (As : List Value) (ct : Ct y K' emI As h f) (V : SW (kO K) index y K' n) (hn : As.length = n) (hfit : fitsIn K' K st) (hs : As.reverse ++ st = stk) (d : decode K.1 pc = .ok (.invokestatic index, 3)) (kk : ∀ r h1, Le h h1 → S em K h0 (pc + 3) L (.int r :: st) h1 (k r h1)) : S em K h0 pc L stk h (bd f k) := s_cS (ps := fun r => [.int r]) As ct V hn hfit hs (fun _ => rfl) d kk
theorem s_cSj {y : MethodName} {K' : xK} {n index : Nat} {stk : List Value} {f : Option (Int64 × xH)} {k : Int64 → xH → Option (ρ × xH)} (As : List Value) (ct : Ct y K' emJ As h f) (V : SW (kO K) index y K' n) (hn : As.length = n) (hfit : fitsIn K' K st) (hs : As.reverse ++ st = stk) (d : decode K.1 pc = .ok (.invokestatic index, 3)) (kk : ∀ r h1, Le h h1 → S em K h0 (pc + 3) L (.long r :: st) h1 (k r h1)) : S em K h0 pc L stk h (bd f k) := s_cS (ps := fun r => [.long r]) As ct V hn hfit hs (fun _ => rfl) d kk
theorem s_cSr {y : MethodName} {K' : xK} {n index : Nat} {stk : List Value} {f : Option (Nat × xH)} {k : Nat → xH → Option (ρ × xH)} (As : List Value) (ct : Ct y K' emR As h f) (V : SW (kO K) index y K' n) (hn : As.length = n) (hfit : fitsIn K' K st) (hs : As.reverse ++ st = stk) (d : decode K.1 pc = .ok (.invokestatic index, 3)) (kk : ∀ r h1, Le h h1 → S em K h0 (pc + 3) L (.ref r :: st) h1 (k r h1)) : S em K h0 pc L stk h (bd f k) := s_cS (ps := fun r => [.ref r]) As ct V hn hfit hs (fun _ => rfl) d kk
theorem s_cNi {y : MethodName} {K' : xK} {n index : Nat} {host : String} {stk : List Value} {f : Option (Int32 × xH)} {k : Int32 → xH → Option (ρ × xH)} (As : List Value) (ct : Ct y K' emI As h f) (V : NW (kO K) index host y K' n) (hst : Cond.static y ∈ lw_gd) (hn : As.length = n) (hfit : fitsIn K' K st) (hs : As.reverse ++ st = stk) (d : decode K.1 pc = .ok (.invokestatic index, 3)) (kk : ∀ r h1, Le h h1 → S em K h0 (pc + 3) L (.int r :: st) h1 (k r h1)) : S em K h0 pc L stk h (bd f k) := by
  subst hs
  exact s_callSN ct V hst hn hfit d kk
theorem s_cI {y : MethodName} {K' : xK} {n index rr : Nat} {stk : List Value} {f : Option (Unit × xH)} {k : Unit → xH → Option (ρ × xH)} (As : List Value) (ct : Ct y K' emV (.ref rr :: As) h f) (hk : 2 ≤ rr) (hrn : kR K' = none) (V : IW (kO K) index y K' n) (hn : As.length = n) (hfit : fitsIn K' K st) (hs : As.reverse ++ .ref rr :: st = stk) (d : decode K.1 pc = .ok (.invokespecial index, 3)) (kk : ∀ r h1, Le h h1 → S em K h0 (pc + 3) L st h1 (k r h1)) : S em K h0 pc L stk h (bd f k) := by
  subst hs
  exact s_callI ct hk hrn V hn hfit d kk
theorem s_cIN {y : MethodName} {K' : xK} {n index rr : Nat} {host : String} {stk : List Value} {f : Option (Unit × xH)} {k : Unit → xH → Option (ρ × xH)} (As : List Value) (ct : Ct y K' emV (.ref rr :: As) h f) (hk : 2 ≤ rr) (hrn : kR K' = none) (V : NW (kO K) index host y K' n) (hyn : y.name = "<init>") (hst : Cond.instanceMethod y ∈ lw_gd) (hn : As.length = n) (hfit : fitsIn K' K st) (hs : As.reverse ++ .ref rr :: st = stk) (d : decode K.1 pc = .ok (.invokespecial index, 3)) (kk : ∀ r h1, Le h h1 → S em K h0 (pc + 3) L st h1 (k r h1)) : S em K h0 pc L stk h (bd f k) := by
  subst hs
  exact s_callIN ct hk hrn V hyn hst hn hfit d kk
/-! the script -/
theorem s_sld {n : Nat} {xs : Nat → Int32} {i : Int32} (hk : ix i n) (hq : kS K = some (n, xs)) (d : decode K.1 pc = .ok (.iaload, 1)) (kk : S em K h0 (pc + 1) L (.int (xs i.toNatClampNeg) :: st) h X) : S em K h0 pc L (.int i :: .ref 1 :: st) h X := by
  refine S_rd (fun M G C H locs cells slots ls Q rp sv hl w => ?_) kk
  obtain ⟨x1, x2, x3⟩ := C.2.2.2.2.2.2.2.2.2.2.2.2.2.2 _ hq
  exact va_sld C.1 C.2.1 x1 x2 (Nat.not_le.mpr x3) sv hk d w
theorem s_slen {n : Nat} {xs : Nat → Int32} (hq : kS K = some (n, xs)) (d : decode K.1 pc = .ok (.arraylength, 1)) (kk : S em K h0 (pc + 1) L (.int (Int32.ofNat n) :: st) h X) : S em K h0 pc L (.ref 1 :: st) h X := by
  refine S_rd (fun M G C H locs cells slots ls Q rp sv hl w => ?_) kk
  obtain ⟨x1, x2, x3⟩ := C.2.2.2.2.2.2.2.2.2.2.2.2.2.2 _ hq
  exact va_slen C.1 C.2.1 x1 x2 (Nat.not_le.mpr x3) sv d w
end CALLS
