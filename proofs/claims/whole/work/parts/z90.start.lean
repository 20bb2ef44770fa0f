/-! THE CLAIM OUT OF ONE WALK OF THE LAW'S BODY. Your part is whole_start (and what it stands on); all else here is the same for every law, but numbers. -/
def R_law : String := "LeastSumsLaw"
def lw_P (b : Addr) (xs : List Int32) (args : Array Value) (s : State) : Prop := args = #[.ref b] ∧ s.IntsAt b xs ∧ xs.length ≤ 3072 ∧ (Jvm.Cond.and given_1 narrow_1).before args s = true
/-- what a walk over the start with the record d0 says of its end, said of the start itself -/
theorem lw_closed {s t : State} {o : Outcome} {d0 : Drawn} {L : List Loc} {k n : Nat} (hd0 : s.drawn.sameBut d0 lw_cs) (hv : ∃ v, o = .returned v) (hW : (s.setDrawn d0).WarmedH t.vm) (hs : (s.setDrawn d0).sameButNew ({ t with vm := s.vm } : State) L k n) : State.butDraws s t lw_cs (fun t1 => Framed s o t1 L k n) := by
  have h2 : t.drawn = d0 := congrArg State.drawn hs.1
  refine ⟨⟨hv, hW, State.sameButNew.setDrawn hs s.drawn⟩, ?_, by decide⟩
  rw [h2]
  exact hd0
def lw_Q (_ : Array Value) (s : State) (o : Outcome) (t : State) : Prop := o = .returned (some (.int 1)) ∧ State.butDraws s t lw_cs (fun t1 => Framed s o t1 [] 600000 7302250)
def lw_Z (below : List Frame) (a : Array Value) (s : State) : State → Prop := fun t => ∃ o, t.status = .running ∧ Ended t below o ∧ lw_Q a s o t
/-- the law's own end, with 1 on the stack, nothing written that was there before, its room as the claim has it; d0: the record of draws at this point (at the entry s.drawn: begin with 'refine W.base ?_' and 'have hd0 := Drawn.sameBut.refl s.drawn lw_cs') -/
theorem lw_ret {p : Program} {l : Launch} {e : Env} {s : State} {m : MethodId} {below : List Frame} {meth : Method} {c : Code} {b : Nat} {d0 : Drawn} (hd0 : s.drawn.sameBut d0 lw_cs) (hx : p.tables.exec = Jvm.exec) (hb : c.code = code) (hr : meth.sig.returnType = ret) (hlocks : meth.locks = false) {pc : Nat} {H : Heap} {ls : Array Slot} (hdg : decode code pc = .ok (.ireturn, 1)) : W p l e room_1 (s.setDrawn d0) m #[Value.ref b] below meth c H [] 600000 7302250 (lw_Z below #[Value.ref b] s) (F0 m pc ls [.int 1]) := by
  intro T hT X
  obtain ⟨fs, hret, hrun, hended, hW, hframe⟩ := X.leave (v := some (.int 1)) (hlocks := hlocks) (fun h => by rw [hr] at h; cases h)
  have hmeth' : T.vm.method? m = some meth := X.method'
  refine ⟨T.setFrames fs, ?_, .returned (some (.int 1)), hrun, hended, rfl, lw_closed hd0 ⟨_, rfl⟩ hW hframe⟩
  jvm_step X.here [X.here.top, hx, hb, hdg, hmeth', hr, ret, narrow_b1]
  (try refine ⟨rfl, ?_⟩); (try refine ⟨rfl, ?_⟩)
  first | (intro acts; rw [hret _ acts rfl rfl rfl]) | rw [hret _ _ rfl rfl rfl]
  exact Steps.refl _
/-- what holds at the law's entry: the machine, the code, the tables' words (any of lw_tbl by 'hts w (by decide +kernel)'), the script of L ints xs at the cell b, what the Statement gives of the start (any of its parts by flat_of_before) -/
def lw_At (p : Program) (s : State) (m : MethodId) (meth : Method) (c : Code) (b L : Nat) (xs : Nat → Int32) : Prop :=
  p.tables.exec = Jvm.exec ∧ c.code = code ∧ meth.sig.returnType = ret ∧ c.maxLocals = 4 ∧ s.vm.findClass R_law = some m.cls ∧ (∀ w ∈ lw_tbl, w.before #[Value.ref b] s = true) ∧ va_X b L xs s s.heap ∧ b < s.heap.size ∧ meth.locks = false ∧ (Jvm.Cond.and given_1 narrow_1).before #[Value.ref b] s = true
theorem nw_0 : Cond.instantiable RX0 6 ∈ lw_gd := gd_of 62 (by decide +kernel) rfl
theorem nw_1 : Cond.instantiable RX1 10 ∈ lw_gd := gd_of 135 (by decide +kernel) rfl
theorem nw_2 : Cond.instantiable RX2 3 ∈ lw_gd := gd_of 174 (by decide +kernel) rfl
theorem nw_3 : Cond.instantiable RX3 5 ∈ lw_gd := gd_of 197 (by decide +kernel) rfl
theorem nw_4 : Cond.instantiable RX4 6 ∈ lw_gd := gd_of 25 (by decide +kernel) rfl
theorem nw_5 : Cond.instantiable RX5 11 ∈ lw_gd := gd_of 91 (by decide +kernel) rfl
theorem nw_6 : Cond.instantiable RX6 16 ∈ lw_gd := gd_of 16 (by decide +kernel) rfl
theorem nw_7 : Cond.instantiable RX7 57 ∈ lw_gd := gd_of 850 (by decide +kernel) rfl
/-! the law's own walk: from what the functions say -/
def hE : xH := ([], fun _ _ => 0, fun _ _ => 0, fun _ _ => 0)
def PureOk : Prop := ∀ (n : Nat) (xs : Nat → Int32), n ≤ 3072 → ∃ h', fL_law n xs hE = some (1, h') ∧ cnt h' ≤ 600000 ∧ siz h' ≤ 7302250
theorem gd_tbl {w : Cond} (h : w ∈ lw_gd) : w ∈ lw_tbl := (List.mem_filter.mp h).1
theorem arr_of {args : Array Value} {s : State} {ty : FieldType} (h : (Cond.arrayClass ty).before args s = true) (hra : ∀ U cA, va_RA U cA ty = (U.vm.findClass ("[" ++ ty.toString) = some cA)) : ∃ cA, ArrOfT s cA ty ∧ va_RA s cA ty := by
  obtain ⟨c, k, comp, h1, h2, h3⟩ := Cond.arrayClass_spec h
  exact ⟨c, fun n z => ⟨(fun k h => by cases h), k, h2, comp, h3⟩, by rw [hra]; exact h1⟩
theorem arr_ofS {args : Array Value} {s : State} {C : String} (h : (Cond.arrayOver (.object C)).before args s = true) : ∃ cA, ArrOfT s cA (.object C) ∧ va_RA s cA (.object C) := by
  obtain ⟨comp, c, k, h1, -, h2, h3, h4⟩ := Cond.arrayOver_spec h
  exact ⟨c, fun n z => ⟨(fun k h => by cases h), k, h2, comp, h3⟩, k, comp, h2, h3, h1, h4⟩
set_option maxHeartbeats 4000000 in
theorem whole_of (hp : PureOk) {p : Program} {e : Env} {s : State} {m : MethodId} {below : List Frame} {meth : Method} {c : Code} (l : Launch) {b L : Nat} {xs : Nat → Int32} (hL : L ≤ 3072) (C0 : lw_At p s m meth c b L xs) : W p l e room_1 s m #[Value.ref b] below meth c s.heap [] 0 0 (lw_Z below #[Value.ref b] s) (entryFrame m ([Value.ref b] : List Value).toArray 4) := by
  obtain ⟨hx, hb, hr, hml, hown, hts, hX, hbl, hlocks, hgv⟩ := id C0
  obtain ⟨h', hf, hc1, hc2⟩ := hp L xs hL
  obtain ⟨c0, i0, k0⟩ := u_known (C := RX0) (T := TX0) (N := 6) (n := 6) hts (fun w hw => gd_tbl (ws_0 w hw)) (hts _ (gd_tbl (nw_0)))
  obtain ⟨c1, i1, k1⟩ := u_known (C := RX1) (T := TX1) (N := 10) (n := 10) hts (fun w hw => gd_tbl (ws_1 w hw)) (hts _ (gd_tbl (nw_1)))
  obtain ⟨c2, i2, k2⟩ := u_known (C := RX2) (T := TX2) (N := 3) (n := 3) hts (fun w hw => gd_tbl (ws_2 w hw)) (hts _ (gd_tbl (nw_2)))
  obtain ⟨c3, i3, k3⟩ := u_known (C := RX3) (T := TX3) (N := 5) (n := 5) hts (fun w hw => gd_tbl (ws_3 w hw)) (hts _ (gd_tbl (nw_3)))
  obtain ⟨c4, i4, k4⟩ := u_known (C := RX4) (T := TX4) (N := 6) (n := 6) hts (fun w hw => gd_tbl (ws_4 w hw)) (hts _ (gd_tbl (nw_4)))
  obtain ⟨c5, i5, k5⟩ := u_known (C := RX5) (T := TX5) (N := 11) (n := 11) hts (fun w hw => gd_tbl (ws_5 w hw)) (hts _ (gd_tbl (nw_5)))
  obtain ⟨c6, i6, k6⟩ := u_known (C := RX6) (T := TX6) (N := 16) (n := 16) hts (fun w hw => gd_tbl (ws_6 w hw)) (hts _ (gd_tbl (nw_6)))
  obtain ⟨c7, i7, k7⟩ := u_known (C := RX7) (T := TX7) (N := 57) (n := 57) hts (fun w hw => gd_tbl (ws_7 w hw)) (hts _ (gd_tbl (nw_7)))
  obtain ⟨dC, dI, hKc⟩ : ∃ (dC : Nat → ClassId) (dI : Nat → Nat → Nat), ∀ (k : Nat) (q : vw_C), vwCl[k]? = some q → u_Kn s q.1 q.2.1 q.2.2 (dC k) (dI k) := by
    refine ⟨fun k => if k = 0 then c0 else if k = 1 then c1 else if k = 2 then c2 else if k = 3 then c3 else if k = 4 then c4 else if k = 5 then c5 else if k = 6 then c6 else c7, fun k => if k = 0 then i0 else if k = 1 then i1 else if k = 2 then i2 else if k = 3 then i3 else if k = 4 then i4 else if k = 5 then i5 else if k = 6 then i6 else i7, ?_⟩
    intro k q hq
    match k, hq with
    | 0, hq => cases hq; exact k0
    | 1, hq => cases hq; exact k1
    | 2, hq => cases hq; exact k2
    | 3, hq => cases hq; exact k3
    | 4, hq => cases hq; exact k4
    | 5, hq => cases hq; exact k5
    | 6, hq => cases hq; exact k6
    | 7, hq => cases hq; exact k7
    | k + 8, hq => simp [vwCl] at hq
  obtain ⟨a8, A8⟩ := arr_of (hts _ (gd_tbl (gd_of 60 (w := Cond.arrayClass .int) (by decide +kernel) rfl))) (fun _ _ => rfl)
  obtain ⟨a9, A9⟩ := arr_of (hts _ (gd_tbl (gd_of 59 (w := Cond.arrayClass .long) (by decide +kernel) rfl))) (fun _ _ => rfl)
  obtain ⟨a10, A10⟩ := arr_of (hts _ (gd_tbl (gd_of 132 (w := Cond.arrayClass .boolean) (by decide +kernel) rfl))) (fun _ _ => rfl)
  obtain ⟨a11, A11⟩ := arr_of (hts _ (gd_tbl (gd_of 133 (w := Cond.arrayClass .byte) (by decide +kernel) rfl))) (fun _ _ => rfl)
  have hao : (Cond.arrayOver (.object "LeastSums$Shape")).before #[Value.ref b] s = true := hts _ (List.mem_append_right _ (List.mem_of_getElem? (i := 24) (by decide +kernel)))
  obtain ⟨a12, A12⟩ := arr_ofS hao
  obtain ⟨aC, e8, e9, e10, e11, e12⟩ : ∃ aC : Nat → ClassId, aC 8 = a8 ∧ aC 9 = a9 ∧ aC 10 = a10 ∧ aC 11 = a11 ∧ aC 12 = a12 := ⟨fun k => if k = 8 then a8 else if k = 9 then a9 else if k = 10 then a10 else if k = 11 then a11 else a12, rfl, rfl, rfl, rfl, rfl⟩
  have hK : va_K (dC, dI) vwCl (tysA (s.heap.size, b, (dC, dI), aC)) s := by
    refine ⟨hKc, fun k q hq => ?_⟩
    match k, hq with
    | 0, hq => cases hq; show ArrOfT s (aC 8) _ ∧ va_RA s (aC 8) _; rw [e8]; exact A8
    | 1, hq => cases hq; show ArrOfT s (aC 9) _ ∧ va_RA s (aC 9) _; rw [e9]; exact A9
    | 2, hq => cases hq; show ArrOfT s (aC 10) _ ∧ va_RA s (aC 10) _; rw [e10]; exact A10
    | 3, hq => cases hq; show ArrOfT s (aC 11) _ ∧ va_RA s (aC 11) _; rw [e11]; exact A11
    | 4, hq => cases hq; show ArrOfT s (aC 12) _ ∧ va_RA s (aC 12) _; rw [e12]; exact A12
    | k + 5, hq => simp [tysA] at hq
  have hnest : NestOk s := fun a i x y hm => va_Nw.of rfl (hts _ (List.mem_append_right _ hm))
  have rp : Rep (s.heap.size, b, (dC, dI), aC) hE s.heap := ⟨by simp [hE], fun i q hq => by simp [hE] at hq⟩
  have hl := lv_entry ([Value.ref b] : List Value) (n := 4) (Nat.le_of_ble_eq_true rfl)
  rw [lg_entry_eq]
  obtain ⟨-, K⟩ := pL_law_e L xs hE 1 h' hf
  have k2 := K (p, l, e, room_1, s, m, #[Value.ref b], below, meth, c) (s.heap.size, b, (dC, dI), aC) ⟨hx, hb, hml, hown, fun w hw => hts w (gd_tbl hw), hlocks, hK, rfl, rfl, hr, fun h => absurd (show "law" = "<init>" from h) (by decide), Nat.le_refl _, hnest, va_AO.of hao, fun q hq => by cases hq; exact ⟨hX, hbl, hbl⟩⟩ (by show cnt h' - 0 ≤ 600000; omega) (by show siz h' - 0 ≤ 7302250; omega) (Le.rf _) s.heap [] _ rp va_S.rf hl
  rw [Nat.sub_self, Nat.sub_self] at k2
  intro T hT X
  obtain ⟨t, g1, o, g2, g3, ⟨g4, g5, g6⟩, Lc, ⟨⟨v, gv⟩, gw, gs⟩, g8⟩ := k2 T hT X
  refine ⟨t, g1, o, g2, g3, g4, ?_⟩
  have gs2 := gs.weaken (l' := []) (c' := 600000) (n' := 7302250) (fun y hy hlt => absurd hlt (Nat.not_lt.mpr (g8 y hy))) (by show cnt h' - 0 ≤ 600000; omega) (by show siz h' - 0 ≤ 7302250; omega)
  exact lw_closed (d0 := s.drawn) (Drawn.sameBut.refl s.drawn lw_cs) ⟨_, gv⟩ gw gs2
