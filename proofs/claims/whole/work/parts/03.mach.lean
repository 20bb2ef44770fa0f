/-! THE HEAP OF NUMBERS: kinds of the cells that were made, ints, longs, references, all by (reference number, place). Reference numbers: 0 null, 1 the script, k + 2 the cell made as k-th (from 0). Kinds: 0..7 an object of that class of vwCl; 8 int[], 9 long[], 10 boolean[], 11 byte[], 12 Shape[]. -/
abbrev xH : Type := List (Nat × Nat) × (Nat → Nat → Int32) × (Nat → Nat → Int64) × (Nat → Nat → Nat)
def xkd (h : xH) (r : Nat) : Nat × Nat := match r with
  | 0 => (99, 0)
  | 1 => (99, 0)
  | k + 2 => (h.1[k]?).getD (99, 0)
def kc (h : xH) (r : Nat) : Nat := (xkd h r).1
def kl (h : xH) (r : Nat) : Nat := (xkd h r).2
def hI (h : xH) (r k : Nat) : Int32 := h.2.1 r k
def hJ (h : xH) (r k : Nat) : Int64 := h.2.2.1 r k
def hR (h : xH) (r k : Nat) : Nat := h.2.2.2 r k
def up2 {α : Type} (f : Nat → Nat → α) (r k : Nat) (v : α) : Nat → Nat → α := fun a j => if a = r ∧ j = k then v else f a j
def cl1 {α : Type} (f : Nat → Nat → α) (r : Nat) (v : α) : Nat → Nat → α := fun a j => if a = r then v else f a j
def cp2 {α : Type} (f : Nat → Nat → α) (s sp d dp n : Nat) : Nat → Nat → α := fun a j => if a = d ∧ dp ≤ j ∧ j < dp + n then f s (sp + (j - dp)) else f a j
def sI (h : xH) (r k : Nat) (v : Int32) : xH := (h.1, up2 h.2.1 r k v, h.2.2)
def sJ (h : xH) (r k : Nat) (v : Int64) : xH := (h.1, h.2.1, up2 h.2.2.1 r k v, h.2.2.2)
def sR (h : xH) (r k : Nat) (v : Nat) : xH := (h.1, h.2.1, h.2.2.1, up2 h.2.2.2 r k v)
def hnx (h : xH) : Nat := h.1.length + 2
def hnew (h : xH) (c n : Nat) : xH := (h.1 ++ [(c, n)], cl1 h.2.1 (hnx h) 0, cl1 h.2.2.1 (hnx h) 0, cl1 h.2.2.2 (hnx h) 0)
def cpI (h : xH) (s sp d dp n : Nat) : xH := (h.1, cp2 h.2.1 s sp d dp n, h.2.2)
def cpJ (h : xH) (s sp d dp n : Nat) : xH := (h.1, h.2.1, cp2 h.2.2.1 s sp d dp n, h.2.2.2)
def nf (c : Nat) : Nat := match c with
  | 0 => 6
  | 1 => 10
  | 2 => 3
  | 3 => 5
  | 4 => 6
  | 5 => 11
  | 6 => 16
  | _ => 57
def ksz (q : Nat × Nat) : Nat := if q.1 < 8 then nf q.1 else q.2
def cnt (h : xH) : Nat := h.1.length
def siz (h : xH) : Nat := (h.1.map ksz).sum
def Le (h h' : xH) : Prop := ∃ l, h'.1 = h.1 ++ l
def fcode (t : FieldType) : Nat := match t with
  | .long => 1
  | .object _ => 2
  | .array _ => 2
  | _ => 0
def tyA (c : Nat) : Nat → FieldType := match c with
  | 0 => tyX0
  | 1 => tyX1
  | 2 => tyX2
  | 3 => tyX3
  | 4 => tyX4
  | 5 => tyX5
  | 6 => tyX6
  | _ => tyX7
def ftc (c k : Nat) : Nat := fcode (tyA c k)
/-- base, the script's cell, the classes' numbers and slots, the array classes' numbers -/
abbrev xG : Type := Nat × Nat × va_G × (Nat → ClassId)
def cv (G : xG) (v : Value) : Value := match v with
  | .ref r => (match r with
    | 0 => .null
    | 1 => .ref G.2.1
    | k + 2 => .ref (G.1 + k))
  | .int x => .int x
  | .long x => .long x
  | .float x => .float x
  | v => v
def cq (G : xG) (q : Nat × Value) : Nat × Value := (q.1, cv G q.2)
theorem cv_cat (G : xG) (v : Value) : (cv G v).category = v.category := by
  cases v with
  | ref r => match r with
    | 0 => rfl
    | 1 => rfl
    | k + 2 => rfl
  | _ => rfl
def fv (G : xG) (h : xH) (r c k : Nat) : Value := if ftc c k = 0 then .int (hI h r k) else if ftc c k = 1 then .long (hJ h r k) else cv G (.ref (hR h r k))
def av (G : xG) (h : xH) (r c k : Nat) : Value := if c = 9 then .long (hJ h r k) else if c = 12 then cv G (.ref (hR h r k)) else .int (hI h r k)
def cellOk (G : xG) (h : xH) (r a : Nat) (q : Nat × Nat) (H : Heap) : Prop := if q.1 < 8 then t_OB a (G.2.2.1.1 q.1) (nf q.1) (G.2.2.1.2 q.1) H (fv G h r q.1) else H[a]? = some (arrV (G.2.2.2 q.1) q.2 (av G h r q.1))
def Rep (G : xG) (h : xH) (H : Heap) : Prop := H.size = G.1 + h.1.length ∧ ∀ (i : Nat) (q : Nat × Nat), h.1[i]? = some q → cellOk G h (i + 2) (G.1 + i) q H
def tysA (G : xG) : List (ClassId × FieldType) := [(G.2.2.2 8, .int), (G.2.2.2 9, .long), (G.2.2.2 10, .boolean), (G.2.2.2 11, .byte), (G.2.2.2 12, .object "LeastSums$Shape")]
def Qc (G : xG) (rv : Option Value) (h' : xH) : Array Value → State → Outcome → State → Prop := fun _ st o t => o = .returned (rv.map (cv G)) ∧ Rep G h' t.heap ∧ va_F (fun q => G.1 ≤ q) st t
/-- the tables' words that go along by themselves, and those that are carried -/
def lw_gd : List Cond := lw_tbl.filter goodWord
theorem gd_of {w : Cond} (i : Nat) (h : tables_1[i]? = some w) (hg : goodWord w = true) : w ∈ lw_gd := List.mem_filter.mpr ⟨List.mem_append_right _ (List.mem_of_getElem? h), hg⟩
theorem gd_sel {q : MethodName × Nat} (i : Nat) (h : lw_privs[i]? = some q) : Cond.selects q.1.cls q.1 q.1 ∈ lw_gd := List.mem_filter.mpr ⟨List.mem_append_left _ (List.mem_map.mpr ⟨q, List.mem_of_getElem? h, rfl⟩), rfl⟩
theorem gd_good : GoodIn lw_gd lw_gd := fun w hw => ⟨hw, good_of_word (List.mem_filter.mp hw).2⟩
def NestOk (U : State) : Prop := ∀ a i x b, Cond.methodLinkNest a i x b ∈ tables_1 → va_Nw (.methodLinkNest a i x b) U
def Pc (G : xG) (as : List Value) (h : xH) : Array Value → State → Prop := fun v U => v = (as.map (cv G)).toArray ∧ Rep G h U.heap ∧ va_K G.2.2.1 vwCl (tysA G) U ∧ NestOk U ∧ va_AO "LeastSums$Shape" U
theorem Pc_blind (G : xG) (as : List Value) (h : xH) : FrameBlind (Pc G as h) := fun a U g mk q => ⟨q.1, q.2.1, va_K.moved (u := U) (U := U.calling g mk a) (Vm.Alike.refl U.vm) q.2.2.1, fun a1 i x b hm => va_Nw.same rfl (u := U) (U := U.calling g mk a) rfl (q.2.2.2.1 a1 i x b hm), va_AO.moved (u := U) (U := U.calling g mk a) (Vm.Alike.refl U.vm) q.2.2.2.2⟩
abbrev xM : Type := Program × Launch × Env × Room × State × MethodId × Array Value × List Frame × Method × Code
abbrev xW (M : xM) (H : Heap) (locs : List Loc) (cells slots : Nat) (Q : State → Prop) (g : JFrame) : Prop := W M.1 M.2.1 M.2.2.1 M.2.2.2.1 M.2.2.2.2.1 M.2.2.2.2.2.1 M.2.2.2.2.2.2.1 M.2.2.2.2.2.2.2.1 M.2.2.2.2.2.2.2.2.1 M.2.2.2.2.2.2.2.2.2 H locs cells slots Q g
abbrev mR (M : xM) : Room := M.2.2.2.1
abbrev ms (M : xM) : State := M.2.2.2.2.1
abbrev mm (M : xM) : MethodId := M.2.2.2.2.2.1
abbrev ma (M : xM) : Array Value := M.2.2.2.2.2.2.1
abbrev mb (M : xM) : List Frame := M.2.2.2.2.2.2.2.1
abbrev mt (M : xM) : Method := M.2.2.2.2.2.2.2.2.1
abbrev mc (M : xM) : Code := M.2.2.2.2.2.2.2.2.2
/-- what a method's body stands in: its code, its class, the tables' words, its room -/
abbrev xK : Type := ByteArray × String × String × Nat × Nat × Nat × Option FieldType × Option (Nat × (Nat → Int32))
abbrev kO (K : xK) : String := K.2.1
abbrev kN (K : xK) : String := K.2.2.1
abbrev kL (K : xK) : Nat := K.2.2.2.1
abbrev kF (K : xK) : Nat := K.2.2.2.2.1
abbrev kW (K : xK) : Nat := K.2.2.2.2.2.1
abbrev kR (K : xK) : Option FieldType := K.2.2.2.2.2.2.1
abbrev kS (K : xK) : Option (Nat × (Nat → Int32)) := K.2.2.2.2.2.2.2
def Cx (M : xM) (G : xG) (K : xK) : Prop :=
  M.1.tables.exec = Jvm.exec ∧ (mc M).code = K.1 ∧ (mc M).maxLocals = kL K ∧ (ms M).vm.findClass (kO K) = some (mm M).cls ∧ (∀ w ∈ lw_gd, w.before (ma M) (ms M) = true) ∧ (mt M).locks = false ∧ va_K G.2.2.1 vwCl (tysA G) (ms M) ∧ (mR M).frames = kF K ∧ (mR M).locals = kW K ∧ (mt M).sig.returnType = kR K ∧ (kN K = "<init>" → (mt M).name = kN K) ∧ G.1 ≤ (ms M).heap.size ∧ NestOk (ms M) ∧ va_AO "LeastSums$Shape" (ms M) ∧ ∀ q, kS K = some q → va_X G.2.1 q.1 q.2 (ms M) (ms M).heap ∧ G.2.1 < (ms M).heap.size ∧ G.2.1 < G.1
/-- from pc, with these locals, this stack, this heap: if the rest X of the computation comes to an answer and a heap, so does the machine -/
def S {ρ : Type} (em : ρ → Option Value) (K : xK) (h0 : xH) (pc : Nat) (L : List (Nat × Value)) (st : List Value) (h : xH) (X : Option (ρ × xH)) : Prop :=
  ∀ r h', X = some (r, h') → Le h h' ∧ ∀ (M : xM) (G : xG), Cx M G K → (cnt h' - cnt h0 ≤ (mR M).cells → siz h' - siz h0 ≤ (mR M).slots → Le h0 h → ∀ (H : Heap) (locs : List Loc) (ls : Array Slot), Rep G h H → va_S (fun q => G.1 ≤ q) (ms M).heap H locs → lv_has ls (kL K) (L.map (cq G)) →
    xW M H locs (cnt h - cnt h0) (siz h - siz h0) (MQ (mb M) (Qc G (em r) h') (ma M) (ms M) (cnt h' - cnt h0) (siz h' - siz h0) (fun q => G.1 ≤ q)) (F0 (mm M) pc ls (st.map (cv G))))
theorem Le.rf (h : xH) : Le h h := ⟨[], by simp⟩
theorem Le.tr {a b c : xH} (h1 : Le a b) (h2 : Le b c) : Le a c := by
  obtain ⟨l1, e1⟩ := h1
  obtain ⟨l2, e2⟩ := h2
  exact ⟨l1 ++ l2, by rw [e2, e1, List.append_assoc]⟩
theorem Le.c {a b : xH} (h : Le a b) : cnt a ≤ cnt b := by
  obtain ⟨l, e⟩ := h
  simp [cnt, e]
theorem Le.s {a b : xH} (h : Le a b) : siz a ≤ siz b := by
  obtain ⟨l, e⟩ := h
  simp [siz, e]
theorem kp {g h : xH} {r c : Nat} (e : Le h g) (hk : kc h r = c) (hc : c < 99) : kc g r = c := by
  obtain ⟨l, e⟩ := e
  match r, hk with
  | 0, hk => simp [kc, xkd] at hk; omega
  | 1, hk => simp [kc, xkd] at hk; omega
  | i + 2, hk =>
    have hl : i < h.1.length := by
      apply Classical.byContradiction
      intro hn
      rw [kc, xkd, List.getElem?_eq_none (by omega)] at hk
      simp at hk; omega
    rw [← hk]
    simp only [kc, xkd, e]
    rw [List.getElem?_append_left hl]
theorem kpe {g h : xH} (e : g.1 = h.1) : Le h g := ⟨[], by rw [e]; simp⟩
section RULES
variable {ρ : Type} {em : ρ → Option Value} {K : xK} {h0 h : xH} {pc : Nat} {L : List (Nat × Value)} {st : List Value} {X A B : Option (ρ × xH)}
theorem S_ite {p : Prop} {dp : Decidable p} (ka : p → S em K h0 pc L st h A) (kb : ¬ p → S em K h0 pc L st h B) : S em K h0 pc L st h (@ite _ p dp A B) := by
  intro r h' hX
  by_cases hc : p
  · rw [if_pos hc] at hX; exact ka hc r h' hX
  · rw [if_neg hc] at hX; exact kb hc r h' hX
theorem S_gd {p : Prop} {dp : Decidable p} (ka : p → S em K h0 pc L st h A) : S em K h0 pc L st h (@ite _ p dp A none) :=
  S_ite ka (fun _ r h' hX => by cases hX)
def lt {α β : Type} (a : α) (f : α → β) : β := f a
theorem S_none : S em K h0 pc L st h none := fun r h' hX => by cases hX
theorem S_pure {pc' : Nat} {st' : List Value} (hw : ∀ (M : xM) (G : xG), Cx M G K → ∀ (H : Heap) (locs : List Loc) (cells slots : Nat) (ls : Array Slot) (Q : State → Prop), lv_has ls (kL K) (L.map (cq G)) → xW M H locs cells slots Q (F0 (mm M) pc' ls (st'.map (cv G))) → xW M H locs cells slots Q (F0 (mm M) pc ls (st.map (cv G)))) (k : S em K h0 pc' L st' h X) : S em K h0 pc L st h X := by
  intro r h' hX
  obtain ⟨le, k⟩ := k r h' hX
  exact ⟨le, fun M G C a1 a2 a3 H locs ls b1 b2 b3 => hw M G C H locs _ _ ls _ b3 (k M G C a1 a2 a3 H locs ls b1 b2 b3)⟩
theorem S_loc {pc' : Nat} {st' : List Value} {L' : List (Nat × Value)} (hw : ∀ (M : xM) (G : xG), Cx M G K → ∀ (H : Heap) (locs : List Loc) (cells slots : Nat) (ls : Array Slot) (Q : State → Prop), lv_has ls (kL K) (L.map (cq G)) → (∀ ls', lv_has ls' (kL K) (L'.map (cq G)) → xW M H locs cells slots Q (F0 (mm M) pc' ls' (st'.map (cv G)))) → xW M H locs cells slots Q (F0 (mm M) pc ls (st.map (cv G)))) (k : S em K h0 pc' L' st' h X) : S em K h0 pc L st h X := by
  intro r h' hX
  obtain ⟨le, k⟩ := k r h' hX
  exact ⟨le, fun M G C a1 a2 a3 H locs ls b1 b2 b3 => hw M G C H locs _ _ ls _ b3 (fun ls' b3 => k M G C a1 a2 a3 H locs ls' b1 b2 b3)⟩
/-- fewer locals, in any order -/
theorem S_sub {L' : List (Nat × Value)} (ks : List Nat) (hl : lv_pick L ks = L') (k : S em K h0 pc L' st h X) : S em K h0 pc L st h X := by
  intro r h' hX
  obtain ⟨le, k⟩ := k r h' hX
  refine ⟨le, fun M G C a1 a2 a3 H locs ls b1 b2 b3 => k M G C a1 a2 a3 H locs ls b1 b2 (lv_sub b3 ks ?_)⟩
  rw [← hl]
  simp only [lv_pick, List.map_filterMap, List.getElem?_map]
theorem lvr {G : xG} {ls : Array Slot} (hl : lv_has ls (kL K) (L.map (cq G))) (k : Nat) {i : Nat} {v : Value} (hk : L[k]? = some (i, v)) : ls[i]? = some (.val (cv G v)) := lv_at hl k (by rw [List.getElem?_map, hk]; rfl)
def pf1 (i : Nat) (q : Nat × Value) : Bool := !(q.1 == i) && !(q.1 + 1 == i && q.2.category == 2)
def pf2 (i : Nat) (q : Nat × Value) : Bool := !(q.1 == i) && (!(q.1 == i + 1) && !(q.1 + 1 == i && q.2.category == 2))
theorem lvf1 {G : xG} {L' : List (Nat × Value)} {i : Nat} {v : Value} (hl : (i, v) :: L.filter (pf1 i) = L') : (i, cv G v) :: (L.map (cq G)).filter (fun q => !(q.1 == i) && !(q.1 + 1 == i && q.2.category == 2)) = L'.map (cq G) := by
  rw [← hl, List.map_cons, List.filter_map]
  congr 3
  funext q
  simp [pf1, cq, cv_cat]
theorem lvf2 {G : xG} {L' : List (Nat × Value)} {i : Nat} {v : Value} (hl : (i, v) :: L.filter (pf2 i) = L') : (i, cv G v) :: (L.map (cq G)).filter (fun q => !(q.1 == i) && (!(q.1 == i + 1) && !(q.1 + 1 == i && q.2.category == 2))) = L'.map (cq G) := by
  rw [← hl, List.map_cons, List.filter_map]
  congr 3
  funext q
  simp [pf2, cq, cv_cat]

theorem s_iconst {n : Int} {v : Int32} (hv : Int32.ofInt n = v) (d : decode K.1 pc = .ok (.iconst n, 1)) (k : S em K h0 (pc + 1) L (.int v :: st) h X) : S em K h0 pc L (st) h X :=
  S_pure (fun M G C _ _ _ _ ls _ hl w => lv_iconst C.1 C.2.1 d hv w) k
theorem s_bipush {n : Int} {v : Int32} (hv : (Int8.ofInt n).toInt32 = v) (d : decode K.1 pc = .ok (.bipush n, 2)) (k : S em K h0 (pc + 2) L (.int v :: st) h X) : S em K h0 pc L (st) h X :=
  S_pure (fun M G C _ _ _ _ ls _ hl w => lv_bipush C.1 C.2.1 d hv w) k
theorem s_sipush {n : Int} {v : Int32} (hv : (Int16.ofInt n).toInt32 = v) (d : decode K.1 pc = .ok (.sipush n, 3)) (k : S em K h0 (pc + 3) L (.int v :: st) h X) : S em K h0 pc L (st) h X :=
  S_pure (fun M G C _ _ _ _ ls _ hl w => lv_sipush C.1 C.2.1 d hv w) k
theorem s_lconst {n : Fin 2} {v : Int64} (hv : Int64.ofNat (n : Nat) = v) (d : decode K.1 pc = .ok (.lconst n, 1)) (k : S em K h0 (pc + 1) L (.long v :: st) h X) : S em K h0 pc L (st) h X :=
  S_pure (fun M G C _ _ _ _ ls _ hl w => lv_lconst C.1 C.2.1 d hv w) k
theorem s_iload_n {k0 : Fin 4} {i : Nat} {x : Int32} (hi : (k0 : Nat) = i) (j : Nat) (hj : L[j]? = some (i, .int x)) (d : decode K.1 pc = .ok (.iload_n k0, 1)) (k : S em K h0 (pc + 1) L (.int x :: st) h X) : S em K h0 pc L (st) h X :=
  S_pure (fun M G C _ _ _ _ ls _ hl w => lv_iload_n C.1 C.2.1 d hi (lvr hl j hj) w) k
theorem s_iload {i : Nat} {x : Int32} (j : Nat) (hj : L[j]? = some (i, .int x)) (d : decode K.1 pc = .ok (.iload i, 2)) (k : S em K h0 (pc + 2) L (.int x :: st) h X) : S em K h0 pc L (st) h X :=
  S_pure (fun M G C _ _ _ _ ls _ hl w => lv_iload C.1 C.2.1 d (lvr hl j hj) w) k
theorem s_lload_n {k0 : Fin 4} {i : Nat} {x : Int64} (hi : (k0 : Nat) = i) (j : Nat) (hj : L[j]? = some (i, .long x)) (d : decode K.1 pc = .ok (.lload_n k0, 1)) (k : S em K h0 (pc + 1) L (.long x :: st) h X) : S em K h0 pc L (st) h X :=
  S_pure (fun M G C _ _ _ _ ls _ hl w => lv_lload_n C.1 C.2.1 d hi (lvr hl j hj) w) k
theorem s_lload {i : Nat} {x : Int64} (j : Nat) (hj : L[j]? = some (i, .long x)) (d : decode K.1 pc = .ok (.lload i, 2)) (k : S em K h0 (pc + 2) L (.long x :: st) h X) : S em K h0 pc L (st) h X :=
  S_pure (fun M G C _ _ _ _ ls _ hl w => lv_lload C.1 C.2.1 d (lvr hl j hj) w) k
theorem s_fload_n {k0 : Fin 4} {i : Nat} {x : UInt32} (hi : (k0 : Nat) = i) (j : Nat) (hj : L[j]? = some (i, .float x)) (d : decode K.1 pc = .ok (.fload_n k0, 1)) (k : S em K h0 (pc + 1) L (.float x :: st) h X) : S em K h0 pc L (st) h X :=
  S_pure (fun M G C _ _ _ _ ls _ hl w => lv_fload_n C.1 C.2.1 d hi (lvr hl j hj) w) k
theorem s_fload {i : Nat} {x : UInt32} (j : Nat) (hj : L[j]? = some (i, .float x)) (d : decode K.1 pc = .ok (.fload i, 2)) (k : S em K h0 (pc + 2) L (.float x :: st) h X) : S em K h0 pc L (st) h X :=
  S_pure (fun M G C _ _ _ _ ls _ hl w => lv_fload C.1 C.2.1 d (lvr hl j hj) w) k
theorem s_aload_n {k0 : Fin 4} {i x : Nat} (hi : (k0 : Nat) = i) (j : Nat) (hj : L[j]? = some (i, .ref x)) (d : decode K.1 pc = .ok (.aload_n k0, 1)) (k : S em K h0 (pc + 1) L (.ref x :: st) h X) : S em K h0 pc L st h X :=
  S_pure (fun M G C _ _ _ _ ls _ hl w => by
    have hz := lvr hl j hj
    match x, hz, w with
    | 0, hz, w => exact lv_aload_nN C.1 C.2.1 d hi hz w
    | 1, hz, w => exact lv_aload_n C.1 C.2.1 d hi hz w
    | x + 2, hz, w => exact lv_aload_n C.1 C.2.1 d hi hz w) k
theorem s_aload {i x : Nat} (j : Nat) (hj : L[j]? = some (i, .ref x)) (d : decode K.1 pc = .ok (.aload i, 2)) (k : S em K h0 (pc + 2) L (.ref x :: st) h X) : S em K h0 pc L st h X :=
  S_pure (fun M G C _ _ _ _ ls _ hl w => by
    have hz := lvr hl j hj
    match x, hz, w with
    | 0, hz, w => exact lv_aloadN C.1 C.2.1 d hz w
    | 1, hz, w => exact lv_aload C.1 C.2.1 d hz w
    | x + 2, hz, w => exact lv_aload C.1 C.2.1 d hz w) k
theorem s_iadd {x y : Int32} (d : decode K.1 pc = .ok (.iadd, 1)) (k : S em K h0 (pc + 1) L (.int (x + y) :: st) h X) : S em K h0 pc L (.int y :: .int x :: st) h X :=
  S_pure (fun M G C _ _ _ _ ls _ hl w => lv_iadd C.1 C.2.1 d w) k
theorem s_isub {x y : Int32} (d : decode K.1 pc = .ok (.isub, 1)) (k : S em K h0 (pc + 1) L (.int (x - y) :: st) h X) : S em K h0 pc L (.int y :: .int x :: st) h X :=
  S_pure (fun M G C _ _ _ _ ls _ hl w => lv_isub C.1 C.2.1 d w) k
theorem s_imul {x y : Int32} (d : decode K.1 pc = .ok (.imul, 1)) (k : S em K h0 (pc + 1) L (.int (x * y) :: st) h X) : S em K h0 pc L (.int y :: .int x :: st) h X :=
  S_pure (fun M G C _ _ _ _ ls _ hl w => lv_imul C.1 C.2.1 d w) k
theorem s_iand {x y : Int32} (d : decode K.1 pc = .ok (.iand, 1)) (k : S em K h0 (pc + 1) L (.int (x &&& y) :: st) h X) : S em K h0 pc L (.int y :: .int x :: st) h X :=
  S_pure (fun M G C _ _ _ _ ls _ hl w => lv_iand C.1 C.2.1 d w) k
theorem s_ior {x y : Int32} (d : decode K.1 pc = .ok (.ior, 1)) (k : S em K h0 (pc + 1) L (.int (x ||| y) :: st) h X) : S em K h0 pc L (.int y :: .int x :: st) h X :=
  S_pure (fun M G C _ _ _ _ ls _ hl w => lv_ior C.1 C.2.1 d w) k
theorem s_ladd {x y : Int64} (d : decode K.1 pc = .ok (.ladd, 1)) (k : S em K h0 (pc + 1) L (.long (x + y) :: st) h X) : S em K h0 pc L (.long y :: .long x :: st) h X :=
  S_pure (fun M G C _ _ _ _ ls _ hl w => lv_ladd C.1 C.2.1 d w) k
theorem s_lsub {x y : Int64} (d : decode K.1 pc = .ok (.lsub, 1)) (k : S em K h0 (pc + 1) L (.long (x - y) :: st) h X) : S em K h0 pc L (.long y :: .long x :: st) h X :=
  S_pure (fun M G C _ _ _ _ ls _ hl w => lv_lsub C.1 C.2.1 d w) k
theorem s_lmul {x y : Int64} (d : decode K.1 pc = .ok (.lmul, 1)) (k : S em K h0 (pc + 1) L (.long (x * y) :: st) h X) : S em K h0 pc L (.long y :: .long x :: st) h X :=
  S_pure (fun M G C _ _ _ _ ls _ hl w => lv_lmul C.1 C.2.1 d w) k
theorem s_lxor {x y : Int64} (d : decode K.1 pc = .ok (.lxor, 1)) (k : S em K h0 (pc + 1) L (.long (x ^^^ y) :: st) h X) : S em K h0 pc L (.long y :: .long x :: st) h X :=
  S_pure (fun M G C _ _ _ _ ls _ hl w => lv_lxor C.1 C.2.1 d w) k
theorem s_idiv {x y : Int32} (d : decode K.1 pc = .ok (.idiv, 1)) (k : S em K h0 (pc + 1) L (.int (x / y) :: st) h X) : S em K h0 pc L (.int y :: .int x :: st) h (if ¬ y = 0 then X else none) :=
  S_gd (fun hne => S_pure (fun M G C _ _ _ _ ls _ hl w => lv_idiv C.1 C.2.1 d hne w) k)
theorem s_irem {x y : Int32} (d : decode K.1 pc = .ok (.irem, 1)) (k : S em K h0 (pc + 1) L (.int (x - x / y * y) :: st) h X) : S em K h0 pc L (.int y :: .int x :: st) h (if ¬ y = 0 then X else none) :=
  S_gd (fun hne => S_pure (fun M G C _ _ _ _ ls _ hl w => lv_irem C.1 C.2.1 d hne w) k)
theorem s_ldiv {x y : Int64} (d : decode K.1 pc = .ok (.ldiv, 1)) (k : S em K h0 (pc + 1) L (.long (x / y) :: st) h X) : S em K h0 pc L (.long y :: .long x :: st) h (if ¬ y = 0 then X else none) :=
  S_gd (fun hne => S_pure (fun M G C _ _ _ _ ls _ hl w => lv_ldiv C.1 C.2.1 d hne w) k)
theorem s_lrem {x y : Int64} (d : decode K.1 pc = .ok (.lrem, 1)) (k : S em K h0 (pc + 1) L (.long (x - x / y * y) :: st) h X) : S em K h0 pc L (.long y :: .long x :: st) h (if ¬ y = 0 then X else none) :=
  S_gd (fun hne => S_pure (fun M G C _ _ _ _ ls _ hl w => lv_lrem C.1 C.2.1 d hne w) k)
theorem s_ineg {x : Int32} (d : decode K.1 pc = .ok (.ineg, 1)) (k : S em K h0 (pc + 1) L (.int (-x) :: st) h X) : S em K h0 pc L (.int x :: st) h X :=
  S_pure (fun M G C _ _ _ _ ls _ hl w => lv_ineg C.1 C.2.1 d w) k
theorem s_lneg {x : Int64} (d : decode K.1 pc = .ok (.lneg, 1)) (k : S em K h0 (pc + 1) L (.long (-x) :: st) h X) : S em K h0 pc L (.long x :: st) h X :=
  S_pure (fun M G C _ _ _ _ ls _ hl w => lv_lneg C.1 C.2.1 d w) k
theorem s_i2l {x : Int32} (d : decode K.1 pc = .ok (.i2l, 1)) (k : S em K h0 (pc + 1) L (.long x.toInt64 :: st) h X) : S em K h0 pc L (.int x :: st) h X :=
  S_pure (fun M G C _ _ _ _ ls _ hl w => lv_i2l C.1 C.2.1 d rfl w) k
theorem s_l2i {x : Int64} (d : decode K.1 pc = .ok (.l2i, 1)) (k : S em K h0 (pc + 1) L (.int x.toInt32 :: st) h X) : S em K h0 pc L (.long x :: st) h X :=
  S_pure (fun M G C _ _ _ _ ls _ hl w => lv_l2i C.1 C.2.1 d rfl w) k
theorem s_i2b {x : Int32} (d : decode K.1 pc = .ok (.i2b, 1)) (k : S em K h0 (pc + 1) L (.int x.toInt8.toInt32 :: st) h X) : S em K h0 pc L (.int x :: st) h X :=
  S_pure (fun M G C _ _ _ _ ls _ hl w => lv_i2b C.1 C.2.1 d rfl w) k
theorem s_ishl {x y : Int32} (d : decode K.1 pc = .ok (.ishl, 1)) (k : S em K h0 (pc + 1) L (.int (x <<< (y &&& 31)) :: st) h X) : S em K h0 pc L (.int y :: .int x :: st) h X :=
  S_pure (fun M G C _ _ _ _ ls _ hl w => lv_ishl C.1 C.2.1 d w) k
theorem s_iushr {x y : Int32} (d : decode K.1 pc = .ok (.iushr, 1)) (k : S em K h0 (pc + 1) L (.int ((x.toUInt32 >>> (y.toUInt32 &&& Int32.toUInt32 31)).toInt32) :: st) h X) : S em K h0 pc L (.int y :: .int x :: st) h X :=
  S_pure (fun M G C _ _ _ _ ls _ hl w => lv_iushr C.1 C.2.1 d rfl w) k
theorem s_lcmp {x y : Int64} (d : decode K.1 pc = .ok (.lcmp, 1)) (k : S em K h0 (pc + 1) L (.int (lg_cmp x y) :: st) h X) : S em K h0 pc L (.long y :: .long x :: st) h X :=
  S_pure (fun M G C _ _ _ _ ls _ hl w => W.lcmp C.1 C.2.1 d w) k
theorem s_l2f {x : Int64} (d : decode K.1 pc = .ok (.l2f, 1)) (k : S em K h0 (pc + 1) L (.float (FP.l2f x) :: st) h X) : S em K h0 pc L (.long x :: st) h X :=
  S_pure (fun M G C _ _ _ _ ls _ hl w => lv_l2f C.1 C.2.1 d w) k
theorem s_f2i {x : UInt32} (d : decode K.1 pc = .ok (.f2i, 1)) (k : S em K h0 (pc + 1) L (.int (FP.f2i x) :: st) h X) : S em K h0 pc L (.float x :: st) h X :=
  S_pure (fun M G C _ _ _ _ ls _ hl w => lv_f2i C.1 C.2.1 d w) k
theorem s_fneg {x : UInt32} (d : decode K.1 pc = .ok (.fneg, 1)) (k : S em K h0 (pc + 1) L (.float (FP.fneg x) :: st) h X) : S em K h0 pc L (.float x :: st) h X :=
  S_pure (fun M G C _ _ _ _ ls _ hl w => lv_fneg C.1 C.2.1 d w) k
theorem s_pop_i {x : Int32} (d : decode K.1 pc = .ok (.pop, 1)) (k : S em K h0 (pc + 1) L (st) h X) : S em K h0 pc L (.int x :: st) h X :=
  S_pure (fun M G C _ _ _ _ ls _ hl w => lv_pop C.1 C.2.1 d rfl w) k
theorem s_dup_i {x : Int32} (d : decode K.1 pc = .ok (.dup, 1)) (k : S em K h0 (pc + 1) L (.int x :: .int x :: st) h X) : S em K h0 pc L (.int x :: st) h X :=
  S_pure (fun M G C _ _ _ _ ls _ hl w => lv_dup C.1 C.2.1 d rfl w) k
theorem s_dup_a {x : Nat} (d : decode K.1 pc = .ok (.dup, 1)) (k : S em K h0 (pc + 1) L (.ref x :: .ref x :: st) h X) : S em K h0 pc L (.ref x :: st) h X :=
  S_pure (fun M G C _ _ _ _ ls _ hl w => lv_dup (va := cv G (.ref x)) C.1 C.2.1 d (cv_cat G (.ref x)) w) k
theorem s_dup2_ia {x : Nat} {i : Int32} (d : decode K.1 pc = .ok (.dup2, 1)) (k : S em K h0 (pc + 1) L (.int i :: .ref x :: .int i :: .ref x :: st) h X) : S em K h0 pc L (.int i :: .ref x :: st) h X :=
  S_pure (fun M G C _ _ _ _ ls _ hl w => lv_dup2_11 (va := .int i) (vb := cv G (.ref x)) C.1 C.2.1 d rfl (cv_cat G (.ref x)) w) k
theorem s_goto {off : Int} (tgt : Nat) (d : decode K.1 pc = .ok (.goto off, 3)) (ht : (pc : Int) + off = (tgt : Int)) (k : S em K h0 tgt L st h X) : S em K h0 pc L st h X :=
  S_pure (fun M G C _ _ _ _ ls _ hl w => lv_goto C.1 C.2.1 d ht w) k
theorem s_tableIn {dflt lo hi : Int} {offs : Array Int} {len : Nat} {x : Int32} {off : Int} (tgt : Nat) (d : decode K.1 pc = .ok (.tableswitch dflt lo hi offs, len)) (h1 : ¬ x.toInt < lo) (h2 : ¬ hi < x.toInt) (ho : offs[(x.toInt - lo).toNat]? = some off) (ht : (pc : Int) + off = (tgt : Int)) (k : S em K h0 tgt L st h X) : S em K h0 pc L (.int x :: st) h X :=
  S_pure (fun M G C _ _ _ _ ls _ hl w => lv_tableIn C.1 C.2.1 d h1 h2 ho ht w) k
theorem s_tableOut {dflt lo hi : Int} {offs : Array Int} {len : Nat} {x : Int32} (tgt : Nat) (d : decode K.1 pc = .ok (.tableswitch dflt lo hi offs, len)) (h1 : x.toInt < lo ∨ hi < x.toInt) (ht : (pc : Int) + dflt = (tgt : Int)) (k : S em K h0 tgt L st h X) : S em K h0 pc L (.int x :: st) h X :=
  S_pure (fun M G C _ _ _ _ ls _ hl w => lv_tableOut C.1 C.2.1 d h1 ht w) k
theorem tb_ne {x c : Int32} {n : Int} (h : ¬ x = c) (hc : c.toInt = n) : x.toInt ≠ n := fun e => h (Int32.toInt_inj.mp (e.trans hc.symm))

theorem s_if_eq {x : Int32} {off : Int} (tgt : Nat) (d : decode K.1 pc = .ok (.ifCond .eq off, 3)) (ht : (pc : Int) + off = (tgt : Int)) (ka : x = 0 → S em K h0 tgt L st h A) (kb : ¬ (x = 0) → S em K h0 (pc + 3) L st h B) : S em K h0 pc L (.int x :: st) h (if x = 0 then A else B) := by
  intro r h' hX
  by_cases hc : x = 0
  · rw [if_pos hc] at hX
    obtain ⟨le, k⟩ := ka hc r h' hX
    exact ⟨le, fun M G C a1 a2 a3 H locs ls b1 b2 b3 => lv_if_eq C.1 C.2.1 d ht (fun _ => k M G C a1 a2 a3 H locs ls b1 b2 b3) (fun q => absurd hc q)⟩
  · rw [if_neg hc] at hX
    obtain ⟨le, k⟩ := kb hc r h' hX
    exact ⟨le, fun M G C a1 a2 a3 H locs ls b1 b2 b3 => lv_if_eq C.1 C.2.1 d ht (fun q => absurd q hc) (fun _ => k M G C a1 a2 a3 H locs ls b1 b2 b3)⟩
theorem s_icmp_eq {x y : Int32} {off : Int} (tgt : Nat) (d : decode K.1 pc = .ok (.if_icmp .eq off, 3)) (ht : (pc : Int) + off = (tgt : Int)) (ka : x = y → S em K h0 tgt L st h A) (kb : ¬ (x = y) → S em K h0 (pc + 3) L st h B) : S em K h0 pc L (.int y :: .int x :: st) h (if x = y then A else B) := by
  intro r h' hX
  by_cases hc : x = y
  · rw [if_pos hc] at hX
    obtain ⟨le, k⟩ := ka hc r h' hX
    exact ⟨le, fun M G C a1 a2 a3 H locs ls b1 b2 b3 => lv_icmp_eq C.1 C.2.1 d ht (fun _ => k M G C a1 a2 a3 H locs ls b1 b2 b3) (fun q => absurd hc q)⟩
  · rw [if_neg hc] at hX
    obtain ⟨le, k⟩ := kb hc r h' hX
    exact ⟨le, fun M G C a1 a2 a3 H locs ls b1 b2 b3 => lv_icmp_eq C.1 C.2.1 d ht (fun q => absurd q hc) (fun _ => k M G C a1 a2 a3 H locs ls b1 b2 b3)⟩
theorem s_if_ne {x : Int32} {off : Int} (tgt : Nat) (d : decode K.1 pc = .ok (.ifCond .ne off, 3)) (ht : (pc : Int) + off = (tgt : Int)) (kb : x = 0 → S em K h0 (pc + 3) L st h B) (ka : ¬ x = 0 → S em K h0 tgt L st h A) : S em K h0 pc L (.int x :: st) h (if x = 0 then B else A) := by
  intro r h' hX
  by_cases hc : x = 0
  · rw [if_pos hc] at hX
    obtain ⟨le, k⟩ := kb hc r h' hX
    exact ⟨le, fun M G C a1 a2 a3 H locs ls b1 b2 b3 => lv_if_ne C.1 C.2.1 d ht (fun q => absurd hc q) (fun _ => k M G C a1 a2 a3 H locs ls b1 b2 b3)⟩
  · rw [if_neg hc] at hX
    obtain ⟨le, k⟩ := ka hc r h' hX
    exact ⟨le, fun M G C a1 a2 a3 H locs ls b1 b2 b3 => lv_if_ne C.1 C.2.1 d ht (fun _ => k M G C a1 a2 a3 H locs ls b1 b2 b3) (fun q => absurd q hc)⟩
theorem s_icmp_ne {x y : Int32} {off : Int} (tgt : Nat) (d : decode K.1 pc = .ok (.if_icmp .ne off, 3)) (ht : (pc : Int) + off = (tgt : Int)) (kb : x = y → S em K h0 (pc + 3) L st h B) (ka : ¬ x = y → S em K h0 tgt L st h A) : S em K h0 pc L (.int y :: .int x :: st) h (if x = y then B else A) := by
  intro r h' hX
  by_cases hc : x = y
  · rw [if_pos hc] at hX
    obtain ⟨le, k⟩ := kb hc r h' hX
    exact ⟨le, fun M G C a1 a2 a3 H locs ls b1 b2 b3 => lv_icmp_ne C.1 C.2.1 d ht (fun q => absurd hc q) (fun _ => k M G C a1 a2 a3 H locs ls b1 b2 b3)⟩
  · rw [if_neg hc] at hX
    obtain ⟨le, k⟩ := ka hc r h' hX
    exact ⟨le, fun M G C a1 a2 a3 H locs ls b1 b2 b3 => lv_icmp_ne C.1 C.2.1 d ht (fun _ => k M G C a1 a2 a3 H locs ls b1 b2 b3) (fun q => absurd q hc)⟩
theorem s_if_lt {x : Int32} {off : Int} (tgt : Nat) (d : decode K.1 pc = .ok (.ifCond .lt off, 3)) (ht : (pc : Int) + off = (tgt : Int)) (ka : x < 0 → S em K h0 tgt L st h A) (kb : ¬ (x < 0) → S em K h0 (pc + 3) L st h B) : S em K h0 pc L (.int x :: st) h (if x < 0 then A else B) := by
  intro r h' hX
  by_cases hc : x < 0
  · rw [if_pos hc] at hX
    obtain ⟨le, k⟩ := ka hc r h' hX
    exact ⟨le, fun M G C a1 a2 a3 H locs ls b1 b2 b3 => lv_if_lt C.1 C.2.1 d ht (fun _ => k M G C a1 a2 a3 H locs ls b1 b2 b3) (fun q => absurd hc q)⟩
  · rw [if_neg hc] at hX
    obtain ⟨le, k⟩ := kb hc r h' hX
    exact ⟨le, fun M G C a1 a2 a3 H locs ls b1 b2 b3 => lv_if_lt C.1 C.2.1 d ht (fun q => absurd q hc) (fun _ => k M G C a1 a2 a3 H locs ls b1 b2 b3)⟩
theorem s_icmp_lt {x y : Int32} {off : Int} (tgt : Nat) (d : decode K.1 pc = .ok (.if_icmp .lt off, 3)) (ht : (pc : Int) + off = (tgt : Int)) (ka : x < y → S em K h0 tgt L st h A) (kb : ¬ (x < y) → S em K h0 (pc + 3) L st h B) : S em K h0 pc L (.int y :: .int x :: st) h (if x < y then A else B) := by
  intro r h' hX
  by_cases hc : x < y
  · rw [if_pos hc] at hX
    obtain ⟨le, k⟩ := ka hc r h' hX
    exact ⟨le, fun M G C a1 a2 a3 H locs ls b1 b2 b3 => lv_icmp_lt C.1 C.2.1 d ht (fun _ => k M G C a1 a2 a3 H locs ls b1 b2 b3) (fun q => absurd hc q)⟩
  · rw [if_neg hc] at hX
    obtain ⟨le, k⟩ := kb hc r h' hX
    exact ⟨le, fun M G C a1 a2 a3 H locs ls b1 b2 b3 => lv_icmp_lt C.1 C.2.1 d ht (fun q => absurd q hc) (fun _ => k M G C a1 a2 a3 H locs ls b1 b2 b3)⟩
theorem s_if_ge {x : Int32} {off : Int} (tgt : Nat) (d : decode K.1 pc = .ok (.ifCond .ge off, 3)) (ht : (pc : Int) + off = (tgt : Int)) (ka : 0 ≤ x → S em K h0 tgt L st h A) (kb : ¬ (0 ≤ x) → S em K h0 (pc + 3) L st h B) : S em K h0 pc L (.int x :: st) h (if 0 ≤ x then A else B) := by
  intro r h' hX
  by_cases hc : 0 ≤ x
  · rw [if_pos hc] at hX
    obtain ⟨le, k⟩ := ka hc r h' hX
    exact ⟨le, fun M G C a1 a2 a3 H locs ls b1 b2 b3 => lv_if_ge C.1 C.2.1 d ht (fun _ => k M G C a1 a2 a3 H locs ls b1 b2 b3) (fun q => absurd hc q)⟩
  · rw [if_neg hc] at hX
    obtain ⟨le, k⟩ := kb hc r h' hX
    exact ⟨le, fun M G C a1 a2 a3 H locs ls b1 b2 b3 => lv_if_ge C.1 C.2.1 d ht (fun q => absurd q hc) (fun _ => k M G C a1 a2 a3 H locs ls b1 b2 b3)⟩
theorem s_icmp_ge {x y : Int32} {off : Int} (tgt : Nat) (d : decode K.1 pc = .ok (.if_icmp .ge off, 3)) (ht : (pc : Int) + off = (tgt : Int)) (ka : y ≤ x → S em K h0 tgt L st h A) (kb : ¬ (y ≤ x) → S em K h0 (pc + 3) L st h B) : S em K h0 pc L (.int y :: .int x :: st) h (if y ≤ x then A else B) := by
  intro r h' hX
  by_cases hc : y ≤ x
  · rw [if_pos hc] at hX
    obtain ⟨le, k⟩ := ka hc r h' hX
    exact ⟨le, fun M G C a1 a2 a3 H locs ls b1 b2 b3 => lv_icmp_ge C.1 C.2.1 d ht (fun _ => k M G C a1 a2 a3 H locs ls b1 b2 b3) (fun q => absurd hc q)⟩
  · rw [if_neg hc] at hX
    obtain ⟨le, k⟩ := kb hc r h' hX
    exact ⟨le, fun M G C a1 a2 a3 H locs ls b1 b2 b3 => lv_icmp_ge C.1 C.2.1 d ht (fun q => absurd q hc) (fun _ => k M G C a1 a2 a3 H locs ls b1 b2 b3)⟩
theorem s_if_gt {x : Int32} {off : Int} (tgt : Nat) (d : decode K.1 pc = .ok (.ifCond .gt off, 3)) (ht : (pc : Int) + off = (tgt : Int)) (ka : 0 < x → S em K h0 tgt L st h A) (kb : ¬ (0 < x) → S em K h0 (pc + 3) L st h B) : S em K h0 pc L (.int x :: st) h (if 0 < x then A else B) := by
  intro r h' hX
  by_cases hc : 0 < x
  · rw [if_pos hc] at hX
    obtain ⟨le, k⟩ := ka hc r h' hX
    exact ⟨le, fun M G C a1 a2 a3 H locs ls b1 b2 b3 => lv_if_gt C.1 C.2.1 d ht (fun _ => k M G C a1 a2 a3 H locs ls b1 b2 b3) (fun q => absurd hc q)⟩
  · rw [if_neg hc] at hX
    obtain ⟨le, k⟩ := kb hc r h' hX
    exact ⟨le, fun M G C a1 a2 a3 H locs ls b1 b2 b3 => lv_if_gt C.1 C.2.1 d ht (fun q => absurd q hc) (fun _ => k M G C a1 a2 a3 H locs ls b1 b2 b3)⟩
theorem s_icmp_gt {x y : Int32} {off : Int} (tgt : Nat) (d : decode K.1 pc = .ok (.if_icmp .gt off, 3)) (ht : (pc : Int) + off = (tgt : Int)) (ka : y < x → S em K h0 tgt L st h A) (kb : ¬ (y < x) → S em K h0 (pc + 3) L st h B) : S em K h0 pc L (.int y :: .int x :: st) h (if y < x then A else B) := by
  intro r h' hX
  by_cases hc : y < x
  · rw [if_pos hc] at hX
    obtain ⟨le, k⟩ := ka hc r h' hX
    exact ⟨le, fun M G C a1 a2 a3 H locs ls b1 b2 b3 => lv_icmp_gt C.1 C.2.1 d ht (fun _ => k M G C a1 a2 a3 H locs ls b1 b2 b3) (fun q => absurd hc q)⟩
  · rw [if_neg hc] at hX
    obtain ⟨le, k⟩ := kb hc r h' hX
    exact ⟨le, fun M G C a1 a2 a3 H locs ls b1 b2 b3 => lv_icmp_gt C.1 C.2.1 d ht (fun q => absurd q hc) (fun _ => k M G C a1 a2 a3 H locs ls b1 b2 b3)⟩
theorem s_if_le {x : Int32} {off : Int} (tgt : Nat) (d : decode K.1 pc = .ok (.ifCond .le off, 3)) (ht : (pc : Int) + off = (tgt : Int)) (ka : x ≤ 0 → S em K h0 tgt L st h A) (kb : ¬ (x ≤ 0) → S em K h0 (pc + 3) L st h B) : S em K h0 pc L (.int x :: st) h (if x ≤ 0 then A else B) := by
  intro r h' hX
  by_cases hc : x ≤ 0
  · rw [if_pos hc] at hX
    obtain ⟨le, k⟩ := ka hc r h' hX
    exact ⟨le, fun M G C a1 a2 a3 H locs ls b1 b2 b3 => lv_if_le C.1 C.2.1 d ht (fun _ => k M G C a1 a2 a3 H locs ls b1 b2 b3) (fun q => absurd hc q)⟩
  · rw [if_neg hc] at hX
    obtain ⟨le, k⟩ := kb hc r h' hX
    exact ⟨le, fun M G C a1 a2 a3 H locs ls b1 b2 b3 => lv_if_le C.1 C.2.1 d ht (fun q => absurd q hc) (fun _ => k M G C a1 a2 a3 H locs ls b1 b2 b3)⟩
theorem s_icmp_le {x y : Int32} {off : Int} (tgt : Nat) (d : decode K.1 pc = .ok (.if_icmp .le off, 3)) (ht : (pc : Int) + off = (tgt : Int)) (ka : x ≤ y → S em K h0 tgt L st h A) (kb : ¬ (x ≤ y) → S em K h0 (pc + 3) L st h B) : S em K h0 pc L (.int y :: .int x :: st) h (if x ≤ y then A else B) := by
  intro r h' hX
  by_cases hc : x ≤ y
  · rw [if_pos hc] at hX
    obtain ⟨le, k⟩ := ka hc r h' hX
    exact ⟨le, fun M G C a1 a2 a3 H locs ls b1 b2 b3 => lv_icmp_le C.1 C.2.1 d ht (fun _ => k M G C a1 a2 a3 H locs ls b1 b2 b3) (fun q => absurd hc q)⟩
  · rw [if_neg hc] at hX
    obtain ⟨le, k⟩ := kb hc r h' hX
    exact ⟨le, fun M G C a1 a2 a3 H locs ls b1 b2 b3 => lv_icmp_le C.1 C.2.1 d ht (fun q => absurd q hc) (fun _ => k M G C a1 a2 a3 H locs ls b1 b2 b3)⟩
theorem s_istore_n {k0 : Fin 4} {i : Nat} {x : Int32} {L' : List (Nat × Value)} (hi : (k0 : Nat) = i) (hn : i < kL K) (hl : (i, Value.int x) :: L.filter (pf1 i) = L') (d : decode K.1 pc = .ok (.istore_n k0, 1)) (k : S em K h0 (pc + 1) L' st h X) : S em K h0 pc L (.int x :: st) h X :=
  S_loc (fun M G C _ _ _ _ ls _ hl0 w => lv_istore_n C.1 C.2.1 d hi hl0 hn (lvf1 (G := G) hl) w) k
theorem s_istore {i : Nat} {x : Int32} {L' : List (Nat × Value)} (hn : i < kL K) (hl : (i, Value.int x) :: L.filter (pf1 i) = L') (d : decode K.1 pc = .ok (.istore i, 2)) (k : S em K h0 (pc + 2) L' st h X) : S em K h0 pc L (.int x :: st) h X :=
  S_loc (fun M G C _ _ _ _ ls _ hl0 w => lv_istore C.1 C.2.1 d hl0 hn (lvf1 (G := G) hl) w) k
theorem s_fstore_n {k0 : Fin 4} {i : Nat} {x : UInt32} {L' : List (Nat × Value)} (hi : (k0 : Nat) = i) (hn : i < kL K) (hl : (i, Value.float x) :: L.filter (pf1 i) = L') (d : decode K.1 pc = .ok (.fstore_n k0, 1)) (k : S em K h0 (pc + 1) L' st h X) : S em K h0 pc L (.float x :: st) h X :=
  S_loc (fun M G C _ _ _ _ ls _ hl0 w => lv_fstore_n C.1 C.2.1 d hi hl0 hn (lvf1 (G := G) hl) w) k
theorem s_fstore {i : Nat} {x : UInt32} {L' : List (Nat × Value)} (hn : i < kL K) (hl : (i, Value.float x) :: L.filter (pf1 i) = L') (d : decode K.1 pc = .ok (.fstore i, 2)) (k : S em K h0 (pc + 2) L' st h X) : S em K h0 pc L (.float x :: st) h X :=
  S_loc (fun M G C _ _ _ _ ls _ hl0 w => lv_fstore C.1 C.2.1 d hl0 hn (lvf1 (G := G) hl) w) k
theorem s_lstore_n {k0 : Fin 4} {i : Nat} {x : Int64} {L' : List (Nat × Value)} (hi : (k0 : Nat) = i) (hn : i + 1 < kL K) (hl : (i, Value.long x) :: L.filter (pf2 i) = L') (d : decode K.1 pc = .ok (.lstore_n k0, 1)) (k : S em K h0 (pc + 1) L' st h X) : S em K h0 pc L (.long x :: st) h X :=
  S_loc (fun M G C _ _ _ _ ls _ hl0 w => lv_lstore_n C.1 C.2.1 d hi hl0 hn (lvf2 (G := G) hl) w) k
theorem s_lstore {i : Nat} {x : Int64} {L' : List (Nat × Value)} (hn : i + 1 < kL K) (hl : (i, Value.long x) :: L.filter (pf2 i) = L') (d : decode K.1 pc = .ok (.lstore i, 2)) (k : S em K h0 (pc + 2) L' st h X) : S em K h0 pc L (.long x :: st) h X :=
  S_loc (fun M G C _ _ _ _ ls _ hl0 w => lv_lstore C.1 C.2.1 d hl0 hn (lvf2 (G := G) hl) w) k
theorem s_astore_n {k0 : Fin 4} {i x : Nat} {L' : List (Nat × Value)} (hi : (k0 : Nat) = i) (hn : i < kL K) (hl : (i, Value.ref x) :: L.filter (pf1 i) = L') (d : decode K.1 pc = .ok (.astore_n k0, 1)) (k : S em K h0 (pc + 1) L' st h X) : S em K h0 pc L (.ref x :: st) h X :=
  S_loc (fun M G C _ _ _ _ ls _ hl0 w => by
    have hz := lvf1 (G := G) hl
    match x, hz with
    | 0, hz => exact lv_astore_nN C.1 C.2.1 d hi hl0 hn hz w
    | 1, hz => exact lv_astore_n C.1 C.2.1 d hi hl0 hn hz w
    | x + 2, hz => exact lv_astore_n C.1 C.2.1 d hi hl0 hn hz w) k
theorem s_astore {i x : Nat} {L' : List (Nat × Value)} (hn : i < kL K) (hl : (i, Value.ref x) :: L.filter (pf1 i) = L') (d : decode K.1 pc = .ok (.astore i, 2)) (k : S em K h0 (pc + 2) L' st h X) : S em K h0 pc L (.ref x :: st) h X :=
  S_loc (fun M G C _ _ _ _ ls _ hl0 w => by
    have hz := lvf1 (G := G) hl
    match x, hz with
    | 0, hz => exact lv_astoreN C.1 C.2.1 d hl0 hn hz w
    | 1, hz => exact lv_astore C.1 C.2.1 d hl0 hn hz w
    | x + 2, hz => exact lv_astore C.1 C.2.1 d hl0 hn hz w) k
theorem s_iinc {i : Nat} {n : Int} {x v : Int32} {L' : List (Nat × Value)} (j : Nat) (hj : L[j]? = some (i, .int x)) (hv : x + Int32.ofInt n = v) (hn : i < kL K) (hl : (i, Value.int v) :: L.filter (pf1 i) = L') (d : decode K.1 pc = .ok (.iinc i n, 3)) (k : S em K h0 (pc + 3) L' st h X) : S em K h0 pc L st h X :=
  S_loc (fun M G C _ _ _ _ ls _ hl0 w => lv_iinc C.1 C.2.1 d hl0 (k := j) (by rw [List.getElem?_map, hj]; rfl) hv hn (lvf1 (G := G) hl) w) k
theorem s_ldc {v : Int32} {index : Nat} (hc : Cond.constant (kO K) index v ∈ lw_gd) (d : decode K.1 pc = .ok (.ldc index, 2)) (k : S em K h0 (pc + 2) L (.int v :: st) h X) : S em K h0 pc L st h X :=
  S_pure (fun M G C _ _ _ _ ls _ hl w => lv_ldc C.1 C.2.1 C.2.2.2.1 (C.2.2.2.2.1 _ hc) d w) k
theorem s_ldcf {v : UInt32} {index : Nat} (hc : Cond.constantFloat (kO K) index v ∈ lw_gd) (d : decode K.1 pc = .ok (.ldc index, 2)) (k : S em K h0 (pc + 2) L (.float v :: st) h X) : S em K h0 pc L st h X :=
  S_pure (fun M G C _ _ _ _ ls _ hl w => lv_ldcf C.1 C.2.1 C.2.2.2.1 (C.2.2.2.2.1 _ hc) d w) k
theorem s_ldc2 {v : Int64} {index : Nat} (hc : Cond.constantLong (kO K) index v ∈ lw_gd) (d : decode K.1 pc = .ok (.ldc2_w index, 3)) (k : S em K h0 (pc + 3) L (.long v :: st) h X) : S em K h0 pc L st h X :=
  S_pure (fun M G C _ _ _ _ ls _ hl w => lv_ldc2 C.1 C.2.1 C.2.2.2.1 (C.2.2.2.2.1 _ hc) d w) k
theorem s_fconst0 (d : decode K.1 pc = .ok (.fconst 0, 1)) (k : S em K h0 (pc + 1) L (.float FP.fconst0 :: st) h X) : S em K h0 pc L st h X :=
  S_pure (fun M G C _ _ _ _ ls _ hl w => lv_fconst0 C.1 C.2.1 d w) k
theorem s_fconst1 (d : decode K.1 pc = .ok (.fconst 1, 1)) (k : S em K h0 (pc + 1) L (.float FP.fconst1 :: st) h X) : S em K h0 pc L st h X :=
  S_pure (fun M G C _ _ _ _ ls _ hl w => lv_fconst1 C.1 C.2.1 d w) k
theorem s_fconst2 (d : decode K.1 pc = .ok (.fconst 2, 1)) (k : S em K h0 (pc + 1) L (.float FP.fconst2 :: st) h X) : S em K h0 pc L st h X :=
  S_pure (fun M G C _ _ _ _ ls _ hl w => lv_fconst2 C.1 C.2.1 d w) k
theorem s_fdiv {x y : UInt32} (d : decode K.1 pc = .ok (.fdiv, 1)) (k : S em K h0 (pc + 1) L (.float (FP.fdiv x y) :: st) h X) : S em K h0 pc L (.float y :: .float x :: st) h (if FP.fdiv x y &&& 0x7fffffff ≤ 0x7f800000 then X else none) :=
  S_gd (fun hne => S_pure (fun M G C _ _ _ _ ls _ hl w => lv_fdiv C.1 C.2.1 d hne w) k)
theorem s_fmul {x y : UInt32} (d : decode K.1 pc = .ok (.fmul, 1)) (k : S em K h0 (pc + 1) L (.float (FP.fmul x y) :: st) h X) : S em K h0 pc L (.float y :: .float x :: st) h (if FP.fmul x y &&& 0x7fffffff ≤ 0x7f800000 then X else none) :=
  S_gd (fun hne => S_pure (fun M G C _ _ _ _ ls _ hl w => lv_fmul C.1 C.2.1 d hne w) k)
theorem s_fcmp {x y : UInt32} {op : CmpOp} (d : decode K.1 pc = .ok (.fcmp op, 1)) (k : S em K h0 (pc + 1) L (.int (Op.cmpValue (FP.fcmp x y) op) :: st) h X) : S em K h0 pc L (.float y :: .float x :: st) h X :=
  S_pure (fun M G C _ _ _ _ ls _ hl w => lv_fcmp C.1 C.2.1 d w) k
end RULES
