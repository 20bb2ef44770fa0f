/-! THE LINES OF A JOIN, with their sources -/
def joS (p q : Spn) : List Spn :=
  if p.1 = p.2.2.1 ∨ q.1 = q.2.2.1 then [(p.1 + q.1, p.2.1 + q.2.1, p.2.2.1 + q.2.2.1, p.2.2.2 + q.2.2.2)]
  else if (p.2.2.2 - p.2.1) * (q.2.2.1 - q.1) ≤ (q.2.2.2 - q.2.1) * (p.2.2.1 - p.1) then [(p.1 + q.1, p.2.1 + q.2.1, p.2.2.1 + q.1, p.2.2.2 + q.2.1), (p.2.2.1 + q.1, p.2.2.2 + q.2.1, p.2.2.1 + q.2.2.1, p.2.2.2 + q.2.2.2)]
  else [(p.1 + q.1, p.2.1 + q.2.1, p.1 + q.2.2.1, p.2.1 + q.2.2.2), (p.1 + q.2.2.1, p.2.1 + q.2.2.2, p.2.2.1 + q.2.2.1, p.2.2.2 + q.2.2.2)]
def joP (nf i j : Nat) (p q : Spn) : List (Spn × Nat) :=
  if p.1 = p.2.2.1 ∨ q.1 = q.2.2.1 then [((p.1 + q.1, p.2.1 + q.2.1, p.2.2.1 + q.2.2.1, p.2.2.2 + q.2.2.2), if p.1 = p.2.2.1 then nf + j else i)]
  else if (p.2.2.2 - p.2.1) * (q.2.2.1 - q.1) ≤ (q.2.2.2 - q.2.1) * (p.2.2.1 - p.1) then [((p.1 + q.1, p.2.1 + q.2.1, p.2.2.1 + q.1, p.2.2.2 + q.2.1), i), ((p.2.2.1 + q.1, p.2.2.2 + q.2.1, p.2.2.1 + q.2.2.1, p.2.2.2 + q.2.2.2), nf + j)]
  else [((p.1 + q.1, p.2.1 + q.2.1, p.1 + q.2.2.1, p.2.1 + q.2.2.2), nf + j), ((p.1 + q.2.2.1, p.2.1 + q.2.2.2, p.2.2.1 + q.2.2.1, p.2.2.2 + q.2.2.2), i)]
def joM (fs gs : List Spn) : List Spn := fs.flatMap (fun p => gs.flatMap (joS p))
def joT (fs gs : List Spn) : List (Spn × Nat) := fs.zipIdx.flatMap (fun p => gs.zipIdx.flatMap (fun q => joP fs.length p.2 q.2 p.1 q.1))
def joR (fs gs : List Spn) (t : Nat) : Spn := ((fs ++ gs)[t]?).getD (0, 0, 0, 0)
def spV (p : Spn) : Bool := decide (p.1 < p.2.2.1)
def spZ (p : Spn) : Bool := decide (p.1 = p.2.2.1)
/-- a span goes on, a lone knot is one knot -/
def SpW (p : Spn) : Prop := p.1 ≤ p.2.2.1 ∧ (p.1 = p.2.2.1 → p.2.1 = p.2.2.2)
theorem jo_fst (nf i j : Nat) (p q : Spn) : (joP nf i j p q).map Prod.fst = joS p q := by
  unfold joP joS
  split
  · rfl
  · split <;> rfl
theorem zf {α β : Type} (G : α → List β) : ∀ (l : List α) (k : Nat), (l.zipIdx k).flatMap (fun q => G q.1) = l.flatMap G := by
  intro l
  induction l with
  | nil => intro k; rfl
  | cons a l ih => intro k; rw [List.zipIdx_cons, List.flatMap_cons, List.flatMap_cons, ih]
section JO
variable {fs gs : List Spn}
theorem joT_fst : (joT fs gs).map Prod.fst = joM fs gs := by
  unfold joT joM
  simp only [List.map_flatMap, jo_fst]
  have e : ∀ p : Spn, gs.zipIdx.flatMap (fun q => joS p q.1) = gs.flatMap (joS p) := fun p => zf (joS p) gs 0
  simp only [e]
  exact zf (fun p => gs.flatMap (joS p)) fs 0
theorem joR_f {i : Nat} {p : Spn} (h : fs[i]? = some p) : joR fs gs i = p := by
  unfold joR
  rw [List.getElem?_append_left (List.getElem?_eq_some_iff.mp h).1, h]; rfl
theorem joR_g {j : Nat} {q : Spn} (h : gs[j]? = some q) : joR fs gs (fs.length + j) = q := by
  unfold joR
  rw [List.getElem?_append_right (by omega), show fs.length + j - fs.length = j by omega, h]; rfl
theorem jo_src (wf : ∀ p ∈ fs, SpW p) (wg : ∀ p ∈ gs, SpW p) {x : Spn × Nat} (hx : x ∈ joT fs gs) (hv : x.1.1 < x.1.2.2.1) : x.2 < (fs ++ gs).length ∧ spV (joR fs gs x.2) = true ∧ x.1.2.2.1 - x.1.1 = (joR fs gs x.2).2.2.1 - (joR fs gs x.2).1 ∧ x.1.2.2.2 - x.1.2.1 = (joR fs gs x.2).2.2.2 - (joR fs gs x.2).2.1 := by
  unfold joT at hx
  obtain ⟨⟨p, i⟩, hp, hx⟩ := List.mem_flatMap.mp hx
  obtain ⟨⟨q, j⟩, hq, hx⟩ := List.mem_flatMap.mp hx
  have hp := List.mem_zipIdx_iff_getElem?.mp hp
  have hq := List.mem_zipIdx_iff_getElem?.mp hq
  have il := (List.getElem?_eq_some_iff.mp hp).1
  have jl := (List.getElem?_eq_some_iff.mp hq).1
  have ef : joR fs gs i = p := joR_f hp
  have eg : joR fs gs (fs.length + j) = q := joR_g hq
  have bp := wf p (List.mem_of_getElem? hp)
  have bq := wg q (List.mem_of_getElem? hq)
  have hil : i < fs.length := il
  have hjl : j < gs.length := jl
  rw [List.length_append]
  unfold SpW at bp bq
  unfold joP at hx
  dsimp only at hx
  split at hx
  · rename_i c
    rw [List.mem_singleton] at hx
    subst hx
    dsimp only at hv ⊢
    by_cases cp : p.1 = p.2.2.1
    · rw [if_pos cp, eg]
      have := bp.2 cp
      exact ⟨by omega, decide_eq_true (by omega), by omega, by omega⟩
    · rw [if_neg cp, ef]
      have cq : q.1 = q.2.2.1 := by omega
      have := bq.2 cq
      exact ⟨by omega, decide_eq_true (by omega), by omega, by omega⟩
  · rename_i c
    split at hx
    · rcases List.mem_cons.mp hx with e | e
      · subst e
        dsimp only at hv ⊢
        rw [ef]
        exact ⟨by omega, decide_eq_true (by omega), by omega, by omega⟩
      · rw [List.mem_singleton] at e
        subst e
        dsimp only at hv ⊢
        rw [eg]
        exact ⟨by omega, decide_eq_true (by omega), by omega, by omega⟩
    · rcases List.mem_cons.mp hx with e | e
      · subst e
        dsimp only at hv ⊢
        rw [eg]
        exact ⟨by omega, decide_eq_true (by omega), by omega, by omega⟩
      · rw [List.mem_singleton] at e
        subst e
        dsimp only at hv ⊢
        rw [ef]
        exact ⟨by omega, decide_eq_true (by omega), by omega, by omega⟩
theorem joP_cnt (nf i j : Nat) (p q : Spn) (t : Nat) : ((joP nf i j p q).map Prod.snd).count t ≤ (if t = i then 1 else 0) + (if t = nf + j then 1 else 0) := by
  have c1 : ∀ u : Nat, [u].count t ≤ (if t = u then 1 else 0) := fun u => by
    rw [List.count_cons, List.count_nil]
    by_cases e : t = u
    · rw [if_pos e]; split <;> omega
    · rw [if_neg e, if_neg (by intro z; exact e (eq_of_beq z).symm)]; omega
  have c2 : ∀ u v : Nat, [u, v].count t ≤ (if t = u then 1 else 0) + (if t = v then 1 else 0) := fun u v => by
    have e : [u, v] = [u] ++ [v] := rfl
    rw [e, List.count_append]
    exact Nat.add_le_add (c1 u) (c1 v)
  unfold joP
  split
  · show [if p.1 = p.2.2.1 then nf + j else i].count t ≤ _
    split
    · have := c1 (nf + j); omega
    · have := c1 i; omega
  · split
    · exact c2 i (nf + j)
    · have := c2 (nf + j) i
      show [nf + j, i].count t ≤ _
      omega
theorem zin {nf t A : Nat} {F : Spn × Nat → List Nat} (hF : ∀ a j, (F (a, j)).count t ≤ A + (if t = nf + j then 1 else 0)) : ∀ (l : List Spn) (k : Nat), ((l.zipIdx k).flatMap F).count t ≤ l.length * A + (if nf + k ≤ t then 1 else 0) := by
  intro l
  induction l with
  | nil => intro k; exact Nat.zero_le _
  | cons a l ih =>
    intro k
    rw [List.zipIdx_cons, List.flatMap_cons, List.count_append, List.length_cons, Nat.succ_mul]
    have h1 := hF a k
    have h2 := ih (k + 1)
    by_cases c1 : t = nf + k
    · rw [if_pos c1] at h1
      rw [if_neg (show ¬ nf + (k + 1) ≤ t by omega)] at h2
      rw [if_pos (show nf + k ≤ t by omega)]
      omega
    · rw [if_neg c1] at h1
      by_cases c2 : nf + (k + 1) ≤ t
      · rw [if_pos c2] at h2
        rw [if_pos (show nf + k ≤ t by omega)]
        omega
      · rw [if_neg c2] at h2
        omega
theorem zout {t N : Nat} {F : Spn × Nat → List Nat} (hF : ∀ a i, (F (a, i)).count t ≤ if t = i then N else 0) : ∀ (l : List Spn) (k : Nat), ((l.zipIdx k).flatMap F).count t ≤ if k ≤ t then N else 0 := by
  intro l
  induction l with
  | nil => intro k; exact Nat.zero_le _
  | cons a l ih =>
    intro k
    rw [List.zipIdx_cons, List.flatMap_cons, List.count_append]
    have h1 := hF a k
    have h2 := ih (k + 1)
    by_cases c1 : t = k
    · rw [if_pos c1] at h1
      rw [if_neg (show ¬ k + 1 ≤ t by omega)] at h2
      rw [if_pos (show k ≤ t by omega)]
      omega
    · rw [if_neg c1] at h1
      by_cases c2 : k + 1 ≤ t
      · rw [if_pos c2] at h2
        rw [if_pos (show k ≤ t by omega)]
        omega
      · rw [if_neg c2] at h2
        omega
theorem cnt_1 {α : Type} {t : Nat} {F : α → List Nat} : ∀ (l : List α), (∀ x ∈ l, (F x).count t ≤ 1) → (l.flatMap F).count t ≤ l.length := by
  intro l
  induction l with
  | nil => intro _; exact Nat.zero_le _
  | cons a l ih =>
    intro h
    rw [List.flatMap_cons, List.count_append, List.length_cons]
    have := h a List.mem_cons_self
    have := ih (fun x hx => h x (List.mem_cons_of_mem _ hx))
    omega
theorem jo_cnt {c : Nat} (hf : fs.length ≤ c) (hg : gs.length ≤ c) (t : Nat) : ((joT fs gs).map Prod.snd).count t ≤ c := by
  unfold joT
  simp only [List.map_flatMap]
  have inn : ∀ (a : Spn) (i : Nat), (gs.zipIdx.flatMap (fun q => (joP fs.length i q.2 a q.1).map Prod.snd)).count t ≤ gs.length * (if t = i then 1 else 0) + (if fs.length + 0 ≤ t then 1 else 0) := fun a i => zin (fun b j => joP_cnt fs.length i j a b t) gs 0
  by_cases c1 : t < fs.length
  · have := zout (t := t) (N := gs.length) (F := fun p => gs.zipIdx.flatMap (fun q => (joP fs.length p.2 q.2 p.1 q.1).map Prod.snd)) (fun a i => by
      have := inn a i
      rw [if_neg (show ¬ fs.length + 0 ≤ t by omega)] at this
      dsimp only
      by_cases e : t = i
      · rw [if_pos e, Nat.mul_one] at this
        rw [if_pos e]; omega
      · rw [if_neg e, Nat.mul_zero] at this
        rw [if_neg e]; omega) fs 0
    rw [if_pos (Nat.zero_le _)] at this
    omega
  · have := cnt_1 (t := t) (F := fun p : Spn × Nat => gs.zipIdx.flatMap (fun q => (joP fs.length p.2 q.2 p.1 q.1).map Prod.snd)) fs.zipIdx (fun x hx => by
      obtain ⟨a, i⟩ := x
      have il : i < fs.length := (List.getElem?_eq_some_iff.mp (List.mem_zipIdx_iff_getElem?.mp hx)).1
      have := inn a i
      rw [if_neg (show ¬ t = i by omega), Nat.mul_zero, if_pos (show fs.length + 0 ≤ t by omega)] at this
      dsimp only
      omega)
    rw [List.length_zipIdx] at this
    omega
/-! families -/
def joG (fs gs : List Spn) (m : Nat) : Nat := rkQ (fun t => lby (joR fs gs t)) (fs ++ gs).length (fun t => spV (joR fs gs t)) ((((joT fs gs).map Prod.snd)[m]?).getD 0)
theorem jo_at {m : Nat} (hm : m < ((joM fs gs).map lby).length) : ∃ x ∈ joT fs gs, ((joT fs gs).map Prod.snd)[m]? = some x.2 ∧ lnn ((joM fs gs).map lby) m = lby x.1 ∧ x.1 ∈ joM fs gs := by
  have e := joT_fst (fs := fs) (gs := gs)
  have hl : m < (joT fs gs).length := by rw [← e, List.length_map, List.length_map] at hm; exact hm
  refine ⟨(joT fs gs)[m], List.getElem_mem _, ?_, ?_, ?_⟩
  · rw [List.getElem?_map, List.getElem?_eq_getElem hl]; rfl
  · unfold lnn
    rw [← e, List.getElem?_map, List.getElem?_map, List.getElem?_eq_getElem hl]; rfl
  · rw [← e]
    exact List.mem_map.mpr ⟨_, List.getElem_mem _, rfl⟩
theorem lby_bc {s : Spn} (h : s.1 < s.2.2.1) : lnB (lby s) = s.2.2.2 - s.2.1 ∧ lnC (lby s) = s.2.2.1 - s.1 := by
  unfold lby
  rw [if_neg (by omega)]
  exact ⟨rfl, rfl⟩
theorem jo_m (wf : ∀ p ∈ fs, SpW p) (wg : ∀ p ∈ gs, SpW p) {m : Nat} (hm : m < ((joM fs gs).map lby).length) (hv : lnF (lnn ((joM fs gs).map lby) m) < lnT (lnn ((joM fs gs).map lby) m)) : ∃ t, ((joT fs gs).map Prod.snd)[m]? = some t ∧ joG fs gs m = rkQ (fun t => lby (joR fs gs t)) (fs ++ gs).length (fun t => spV (joR fs gs t)) t ∧ t < (fs ++ gs).length ∧ spV (joR fs gs t) = true ∧ sl (lnn ((joM fs gs).map lby) m) = sl (lby (joR fs gs t)) ∧ lnT (lnn ((joM fs gs).map lby) m) - lnF (lnn ((joM fs gs).map lby) m) = (joR fs gs t).2.2.1 - (joR fs gs t).1 := by
  obtain ⟨x, hx, e1, e2, _⟩ := jo_at hm
  rw [e2] at hv ⊢
  rw [(lby_ends _).1, (lby_ends _).2] at hv
  obtain ⟨s1, s2, s3, s4⟩ := jo_src wf wg hx hv
  have s2' := of_decide_eq_true s2
  refine ⟨x.2, e1, ?_, s1, s2, ?_, ?_⟩
  · unfold joG; rw [e1]; rfl
  · unfold sl
    rw [(lby_bc hv).1, (lby_bc hv).2, (lby_bc s2').1, (lby_bc s2').2, s3, s4]
  · rw [(lby_ends _).1, (lby_ends _).2, s3]
theorem jo_pie (wf : ∀ p ∈ fs, SpW p) (wg : ∀ p ∈ gs, SpW p) {c G : Nat} (hf : fs.length ≤ c) (hg : gs.length ≤ c) (hG : (fs.filter spV).length + (gs.filter spV).length ≤ G) (hG2 : G ≤ 32) {k : Nat} {ps : List Pie} (hk : k ≤ ((joM fs gs).map lby).length) (he : EnvN (lnn ((joM fs gs).map lby)) k ps) : ps.length ≤ c * tau 5 G := by
  have hN : ((List.range (fs ++ gs).length).filter (fun t => spV (joR fs gs t))).length ≤ G := by
    have := idx_flt spV (0, 0, 0, 0) (fs ++ gs)
    have e2 : ((fs ++ gs).filter spV).length = (fs.filter spV).length + (gs.filter spV).length := by rw [List.filter_append, List.length_append]
    rw [e2] at this
    unfold joR
    omega
  refine pies_leL (g := joG fs gs) he (fun s t hs ht vs vt => ?_) (fun s hs vs => ?_) hG2 (fun y l nd hl => ?_)
  · obtain ⟨u, u1, u2, u3, u4, u5, u6⟩ := jo_m wf wg (show s < _ by omega) vs
    obtain ⟨v, v1, v2, v3, v4, v5, v6⟩ := jo_m wf wg (show t < _ by omega) vt
    rw [u2, v2]
    refine ⟨fun z => ?_, fun _ z => Or.inr ?_⟩
    · rw [u5, v5]
      exact rkq_sl (L := fun t => lby (joR fs gs t)) v3 v4 z
    · have e := rkq_in (L := fun t => lby (joR fs gs t)) u3 u4 v3 v4 z
      rw [u5, v5, u6, v6, e]
      exact ⟨rfl, rfl⟩
  · obtain ⟨u, u1, u2, u3, u4, u5, u6⟩ := jo_m wf wg (show s < _ by omega) vs
    have := rkq_b (L := fun t => lby (joR fs gs t)) (pl := fun t => spV (joR fs gs t)) u3 u4
    rw [u2]
    omega
  · match l, nd, hl with
    | [], _, _ => exact Nat.zero_le _
    | m0 :: r, nd, hl =>
      have h0 := hl m0 List.mem_cons_self
      obtain ⟨u, u1, u2, u3, u4, u5, u6⟩ := jo_m wf wg (show m0 < _ by omega) h0.2.2
      have := idx_cnt (t := u) nd (fun m hm => by
        have h1 := hl m hm
        obtain ⟨v, v1, v2, v3, v4, v5, v6⟩ := jo_m wf wg (show m < _ by omega) h1.2.2
        have e := rkq_in (L := fun t => lby (joR fs gs t)) v3 v4 u3 u4 (by rw [← u2, ← v2, h0.1, h1.1])
        rw [← e]; exact v1)
      have := jo_cnt hf hg u
      omega
end JO
