/-! THE CLASS' lookAt -/
theorem Fr.lo {A : Nat → Nat → Prop} {h h' : xH} {r M : Nat} (f : Fr A h h') (q : Lo h r M) : Lo h' r M := by
  have e : ∀ k, xkd h' k = xkd h k := fun k => by unfold xkd; rw [f.1]
  have e1 : ∀ k, kc h' k = kc h k := fun k => by unfold kc; rw [e]
  have e2 : ∀ k, kl h' k = kl h k := fun k => by unfold kl; rw [e]
  have e3 : ∀ a b, hR h' a b = hR h a b := fun a b => by unfold hR; rw [f.2.1]
  unfold Lo
  simp only [e1, e2, e3]
  exact q
theorem CLn.fr {A : Nat → Nat → Prop} {h h' : xH} {r n : Nat} {L : Nat → Ln} (w : CLn h r L n) (f : Fr A h h') (hA : ∀ j k, 1 ≤ j → j ≤ 5 → ¬ A (r + j) k) : CLn h' r L n := by
  intro k hk
  have u := w k hk
  rw [(f.2.2 (r + 1) k (hA _ _ (by decide) (by decide))).1, (f.2.2 (r + 2) k (hA _ _ (by decide) (by decide))).1, (f.2.2 (r + 3) k (hA _ _ (by decide) (by decide))).2, (f.2.2 (r + 4) k (hA _ _ (by decide) (by decide))).2, (f.2.2 (r + 5) k (hA _ _ (by decide) (by decide))).2]
  exact u
theorem c_min {a b : Int} (ha : B32 a) (hb : B32 b) (h : xH) : fJ9_min_7cf53 (i32 a) (i32 b) h = some (i32 (if b < a then b else a), h) := by
  unfold fJ9_min_7cf53
  by_cases c : b < a
  · rw [if_pos ((i32_lt hb ha).mpr c), if_pos c]
  · rw [if_neg (fun z => c ((i32_lt hb ha).mp z)), if_neg c]
def lone' (L : Nat → Ln) (x : Int) (m : Nat) : Prop := lnF (L m) = x ∧ lnT (L m) = x
def LoI (L : Nat → Ln) (k : Nat) (x b : Int) : Prop := (b = -1 ∧ ∀ m, m < k → ¬ lone' L x m) ∨ ∃ o : Nat, b = o ∧ o < k ∧ lone' L x o ∧ ∀ m, m < k → lone' L x m → vl (L o) x ≤ vl (L m) x
def NxI (L : Nat → Ln) (k : Nat) (x N : Int) : Prop := (∀ m, m < k → (x < lnF (L m) → N ≤ lnF (L m)) ∧ (lnF (L m) ≤ x → x < lnT (L m) → N ≤ lnT (L m))) ∧ (N = 2147483647 ∨ ∃ m, m < k ∧ ((N = lnF (L m) ∧ x < lnF (L m)) ∨ (N = lnT (L m) ∧ lnF (L m) ≤ x ∧ x < lnT (L m))))
def LsI (h : xH) (r : Nat) (ls : List Nat) : Prop := hI h r 7 = i32 ls.length ∧ ∀ (i o : Nat), ls[i]? = some o → hI h (r + 6) i = i32 (o : Int)
def AL (r r' k : Nat) : Prop := (r' = r ∧ (k = 7 ∨ k = 8 ∨ k = 9)) ∨ r' = r + 6
theorem LoI.skip {L : Nat → Ln} {k : Nat} {x b : Int} (u : LoI L k x b) (c : ¬ lone' L x k) : LoI L (k + 1) x b := by
  rcases u with ⟨e, u⟩ | ⟨o, e, ho, co, u⟩
  · refine Or.inl ⟨e, fun m hm => ?_⟩
    by_cases z : m = k
    · rw [z]; exact c
    · exact u m (by omega)
  · refine Or.inr ⟨o, e, by omega, co, fun m hm cm => ?_⟩
    by_cases z : m = k
    · rw [z] at cm; exact absurd cm c
    · exact u m (by omega) cm
theorem NxI.keep {L : Nat → Ln} {k : Nat} {x N : Int} (u : NxI L k x N) (c1 : lnF (L k) ≤ x) (c2 : lnT (L k) ≤ x) : NxI L (k + 1) x N := by
  refine ⟨fun m hm => ?_, u.2.elim Or.inl (fun ⟨m, hm, z⟩ => Or.inr ⟨m, by omega, z⟩)⟩
  by_cases z : m = k
  · rw [z]; exact ⟨fun y => by omega, fun _ y => by omega⟩
  · exact u.1 m (by omega)
theorem NxI.put {L : Nat → Ln} {k : Nat} {x N v : Int} (u : NxI L k x N) (hv : (v = lnF (L k) ∧ x < lnF (L k)) ∨ (v = lnT (L k) ∧ lnF (L k) ≤ x ∧ x < lnT (L k))) : NxI L (k + 1) x (if v < N then v else N) := by
  constructor
  · intro m hm
    by_cases z : m = k
    · rw [z]; constructor
      · intro y; rcases hv with e | e <;> split <;> omega
      · intro y y2; rcases hv with e | e <;> split <;> omega
    · have := u.1 m (by omega)
      exact ⟨fun y => by have := this.1 y; split <;> omega, fun y y2 => by have := this.2 y y2; split <;> omega⟩
  · split
    · exact Or.inr ⟨k, by omega, hv⟩
    · exact u.2.elim Or.inl (fun ⟨m, hm, z⟩ => Or.inr ⟨m, by omega, z⟩)
theorem NxI.b {L : Nat → Ln} {k n : Nat} {x N : Int} (u : NxI L k x N) (hk : k ≤ n) (bF : ∀ m, m < n → B32 (lnF (L m)) ∧ B32 (lnT (L m))) : B32 N := by
  rcases u.2 with e | ⟨m, hm, e | e⟩
  · rw [e]; exact ⟨by decide, by decide⟩
  · rw [e.1]; exact (bF m (by omega)).1
  · rw [e.1]; exact (bF m (by omega)).2
section CK
variable {MA MB MC X : Int} {L : Nat → Ln} {n M r : Nat} {x : Int}
theorem AL_ln (j k : Nat) (h1 : 1 ≤ j) (h2 : j ≤ 5) : ¬ AL r (r + j) k := by unfold AL; omega
theorem c_look18 (kk : KonC MA MB MC X) (hn : n ≤ M) (hM : M ≤ 60000) (bL : ∀ k, k < n → LBd MA MB MC (L k)) (bF : ∀ k, k < n → (B32 (lnF (L k)) ∧ B32 (lnT (L k))) ∧ (-X ≤ lnF (L k) ∧ lnF (L k) ≤ X) ∧ lnF (L k) ≤ lnT (L k)) (hx : B32 x) : ∀ (d k m : Nat) (h : xH) (ls : List Nat) (b N : Int), k + d = n → d < m → Lo h r M → CLn h r L n → hI h r 0 = i32 n → LsI h r ls → ls.length ≤ k → (∀ o, o ∈ ls ↔ o < k ∧ lnF (L o) ≤ x ∧ x < lnT (L o)) → hI h r 8 = i32 b → LoI L k x b → hI h r 9 = i32 N → NxI L k x N →
    ∃ h' ls' b' N', fX1_lookAt_l18 m r (i32 x) (i32 k) h = some ((), h') ∧ LsI h' r ls' ∧ ls'.length ≤ n ∧ (∀ o, o ∈ ls' ↔ o < n ∧ lnF (L o) ≤ x ∧ x < lnT (L o)) ∧ hI h' r 8 = i32 b' ∧ LoI L n x b' ∧ hI h' r 9 = i32 N' ∧ NxI L n x N' ∧ Fr (AL r) h h' := by
  intro d
  have bF2 : ∀ m, m < n → B32 (lnF (L m)) ∧ B32 (lnT (L m)) := fun m hm => (bF m hm).1
  induction d with
  | zero =>
    intro k m h ls b N hk hm q w c I hl hls c8 l8 c9 l9
    obtain ⟨m, rfl⟩ : ∃ k, m = k + 1 := ⟨m - 1, by omega⟩
    have ekn : k = n := by omega
    rw [ekn] at hl hls l8 l9
    refine ⟨h, ls, b, N, ?_, I, hl, hls, c8, l8, c9, l9, Fr.rf h⟩
    show fX1_lookAt_b18 _ _ _ _ _ = _
    unfold fX1_lookAt_b18
    rw [if_pos q.1, c, if_pos ((i32_le ⟨by omega, by omega⟩ ⟨by omega, by omega⟩).mpr (by omega))]
  | succ d ih =>
    intro k m h ls b N hk hm q w c I hl hls c8 l8 c9 l9
    obtain ⟨m, rfl⟩ : ∃ k, m = k + 1 := ⟨m - 1, by omega⟩
    have hkn : k < n := by omega
    have wk := w k hkn
    have bk := bF k hkn
    have e1 := nat_i k (by omega)
    have x1 : ix (i32 k) M := ix_i (by omega) (by omega) (by omega)
    have nx : ∀ g : xH, fX1_lookAt_b141 (fX1_lookAt_l18 m) r (i32 x) (i32 k) g = fX1_lookAt_l18 m r (i32 x) (i32 ((k + 1 : Nat) : Int)) g := by
      intro g; unfold fX1_lookAt_b141; rw [lt_def, one32, i32_add]; rfl
    have b136 : ∀ g : xH, Lo g r M → fX1_lookAt_b136 (fX1_lookAt_l18 m) r (i32 x) (i32 k) g = fX1_lookAt_l18 m r (i32 x) (i32 ((k + 1 : Nat) : Int)) (sI g r 8 (i32 k)) := by
      intro g qg; unfold fX1_lookAt_b136; rw [if_pos qg.1, lt_def, nx]
    show ∃ h' ls' b' N', fX1_lookAt_b18 _ _ _ _ _ = _ ∧ _
    unfold fX1_lookAt_b18
    rw [if_pos q.1, c, if_neg (fun z => by have := (i32_le ⟨by omega, by omega⟩ ⟨by omega, by omega⟩).mp z; omega)]
    simp only [q.2.1 1 (by decide) (by decide), q.2.1 2 (by decide) (by decide), q.2.2.1.1, q.2.2.1.2, q.2.2.2.1.1, q.2.2.2.1.2, if_pos x1, e1, wk.1, wk.2.1, c8, c9, reduceIte, nx]
    have NB := l9.b (Nat.le_of_lt hkn) bF2
    by_cases c1 : lnF (L k) ≤ x
    · rw [if_pos ((i32_le bk.1.1 hx).mpr c1)]
      by_cases c2 : lnT (L k) ≤ x
      · rw [if_pos ((i32_le bk.1.2 hx).mpr c2)]
        have hls2 : ∀ o, o ∈ ls ↔ o < k + 1 ∧ lnF (L o) ≤ x ∧ x < lnT (L o) := by
          intro o; rw [hls o]; constructor
          · intro z; exact ⟨by omega, z.2⟩
          · intro z
            refine ⟨?_, z.2⟩
            by_cases y : o = k
            · rw [y] at z; omega
            · omega
        by_cases c3 : lnF (L k) = x
        · rw [if_pos ((i32_eq bk.1.1 hx).mpr c3)]
          have ck : lone' L x k := ⟨c3, by omega⟩
          have f : Fr (AL r) h (sI h r 8 (i32 k)) := Fr.I _ (Or.inl ⟨rfl, Or.inr (Or.inl rfl)⟩)
          have setk : (∀ j, j < k → lone' L x j → vl (L k) x ≤ vl (L j) x) → ∃ h' ls' b' N', fX1_lookAt_l18 m r (i32 x) (i32 ((k + 1 : Nat) : Int)) (sI h r 8 (i32 k)) = some ((), h') ∧ LsI h' r ls' ∧ ls'.length ≤ n ∧ (∀ o, o ∈ ls' ↔ o < n ∧ lnF (L o) ≤ x ∧ x < lnT (L o)) ∧ hI h' r 8 = i32 b' ∧ LoI L n x b' ∧ hI h' r 9 = i32 N' ∧ NxI L n x N' ∧ Fr (AL r) h h' := by
            intro hmin
            obtain ⟨h', ls', b', N', G, a1, a2, a3, a4, a5, a6, a7, a8⟩ := ih (k + 1) m (sI h r 8 (i32 k)) ls k N (by omega) (by omega) (f.lo q) (w.fr f (fun j k a b => AL_ln j k a b)) (by rw [hI_sI, if_neg (by omega)]; exact c) ⟨by rw [hI_sI, if_neg (by omega)]; exact I.1, fun i o e => by rw [hI_sI, if_neg (by omega)]; exact I.2 i o e⟩ (by omega) hls2 (by rw [hI_sI, if_pos ⟨rfl, rfl⟩]) (Or.inr ⟨k, rfl, by omega, ck, fun j hj cj => by
              by_cases y : j = k
              · rw [y]; grind
              · exact hmin j (by omega) cj⟩) (by rw [hI_sI, if_neg (by omega)]; exact c9) (l9.keep c1 c2)
            exact ⟨h', ls', b', N', G, a1, a2, a3, a4, a5, a6, a7, f.tr a8⟩
          rcases l8 with ⟨e, u⟩ | ⟨o, e, ho, co, u⟩
          · rw [if_pos (by rw [e]; decide), b136 h q]
            exact setk (fun j hj cj => absurd cj (u j hj))
          · have hb0 : ¬ i32 b < 0 := fun z => by
              have := (i32_lt (b := 0) ⟨by omega, by omega⟩ ⟨by decide, by decide⟩).mp z
              omega
            obtain ⟨z, E, A, C⟩ := c_orderAt kk q w hn hM hkn (show o < n by omega) (bL k hkn) (bL o (by omega)) (x := x) (by rw [← c3]; exact bk.2.1)
            rw [← e] at E
            rw [if_neg hb0, E, bd_some, b136 h q]
            by_cases c4 : vl (L k) x < vl (L o) x
            · rw [if_neg (fun y => by have := A.mpr c4; have := (si_ge _).mp y; omega)]
              exact setk (fun j hj cj => by have := u j hj cj; grind)
            · rw [if_pos ((si_ge _).mpr (by have : ¬ sg z < 0 := fun y => c4 (A.mp y); omega))]
              refine ih (k + 1) m h ls b N (by omega) (by omega) q w c I (by omega) hls2 c8 (Or.inr ⟨o, e, by omega, co, fun j hj cj => ?_⟩) c9 (l9.keep c1 c2)
              by_cases y : j = k
              · rw [y]; grind
              · exact u j (by omega) cj
        · rw [if_neg (fun z => c3 ((i32_eq bk.1.1 hx).mp z))]
          exact ih (k + 1) m h ls b N (by omega) (by omega) q w c I (by omega) hls2 c8 (l8.skip (fun z => c3 z.1)) c9 (l9.keep c1 c2)
      · rw [if_neg (fun z => c2 ((i32_le bk.1.2 hx).mp z)), c_min NB bk.1.2, bd_some]
        have f : Fr (AL r) h (sI (sI (sI h r 9 (i32 (if lnT (L k) < N then lnT (L k) else N))) (r + 6) ls.length (i32 k)) r 7 (i32 ((ls.length : Int) + 1))) := ((Fr.I _ (Or.inl ⟨rfl, Or.inr (Or.inr rfl)⟩)).tr (Fr.I _ (Or.inr rfl))).tr (Fr.I _ (Or.inl ⟨rfl, Or.inl rfl⟩))
        have e2 := nat_i ls.length (by omega)
        have x2 : ix (i32 ls.length) M := ix_i (by omega) (by omega) (by omega)
        have c7 := I.1
        have s1 : ∀ v, hI (sI h r 9 v) r 7 = hI h r 7 := fun v => by rw [hI_sI, if_neg (by omega)]
        have s2 : ∀ v i w, hI (sI (sI h r 9 v) (r + 6) i w) r 7 = hI h r 7 := fun v i w => by rw [hI_sI, if_neg (by omega), hI_sI, if_neg (by omega)]
        simp only [lt_def, kc_sI, kl_sI, hR_sI, q.2.1 6 (by decide) (by decide), q.2.2.2.2.2.2.2.1, q.2.2.2.2.2.2.2.2, s1, s2, c7, e2, if_pos x2, one32, i32_add, reduceIte, nx]
        have hl1 : (ls ++ [k]).length = ls.length + 1 := by simp
        obtain ⟨h', ls', b', N', G, a1, a2, a3, a4, a5, a6, a7, a8⟩ := ih (k + 1) m _ (ls ++ [k]) b (if lnT (L k) < N then lnT (L k) else N) (by omega) (by omega) (f.lo q) (w.fr f (fun j k a b => AL_ln j k a b)) (by rw [hI_sI, if_neg (by omega), hI_sI, if_neg (by omega), hI_sI, if_neg (by omega)]; exact c) ⟨by rw [hI_sI, if_pos ⟨rfl, rfl⟩, hl1]; rfl, fun i o e => by
            rw [hI_sI, if_neg (by omega), hI_ss]
            by_cases y : i < ls.length
            · rw [if_neg (by omega), hI_sI, if_neg (by omega)]
              rw [List.getElem?_append_left y] at e
              exact I.2 i o e
            · have hi : i < (ls ++ [k]).length := (List.getElem?_eq_some_iff.mp e).1
              have him : i = ls.length := by omega
              rw [him, List.getElem?_append_right (Nat.le_refl _), Nat.sub_self] at e
              have e' : k = o := by simpa using e
              rw [if_pos him, e']⟩ (by omega) (fun o => by
            rw [List.mem_append, hls o]
            constructor
            · rintro (z | z)
              · exact ⟨by omega, z.2⟩
              · have : o = k := by simpa using z
                rw [this]; exact ⟨by omega, c1, by omega⟩
            · intro z
              by_cases y : o = k
              · exact Or.inr (by simp [y])
              · exact Or.inl ⟨by omega, z.2⟩) (by rw [hI_sI, if_neg (by omega), hI_sI, if_neg (by omega), hI_sI, if_neg (by omega)]; exact c8) (l8.skip (fun z => by have := z.2; omega)) (by rw [hI_sI, if_neg (by omega), hI_sI, if_neg (by omega), hI_sI, if_pos ⟨rfl, rfl⟩]) (l9.put (Or.inr ⟨rfl, c1, by omega⟩))
        exact ⟨h', ls', b', N', G, a1, a2, a3, a4, a5, a6, a7, f.tr a8⟩
    · rw [if_neg (fun z => c1 ((i32_le bk.1.1 hx).mp z)), c_min NB bk.1.1, bd_some, lt_def]
      have f : Fr (AL r) h (sI h r 9 (i32 (if lnF (L k) < N then lnF (L k) else N))) := Fr.I _ (Or.inl ⟨rfl, Or.inr (Or.inr rfl)⟩)
      obtain ⟨h', ls', b', N', G, a1, a2, a3, a4, a5, a6, a7, a8⟩ := ih (k + 1) m _ ls b (if lnF (L k) < N then lnF (L k) else N) (by omega) (by omega) (f.lo q) (w.fr f (fun j k a b => AL_ln j k a b)) (by rw [hI_sI, if_neg (by omega)]; exact c) ⟨by rw [hI_sI, if_neg (by omega)]; exact I.1, fun i o e => by rw [hI_sI, if_neg (by omega)]; exact I.2 i o e⟩ (by omega) (fun o => by
          rw [hls o]; constructor
          · intro z; exact ⟨by omega, z.2⟩
          · intro z
            refine ⟨?_, z.2⟩
            by_cases y : o = k
            · rw [y] at z; omega
            · omega) (by rw [hI_sI, if_neg (by omega)]; exact c8) (l8.skip (fun z => by have := z.1; omega)) (by rw [hI_sI, if_pos ⟨rfl, rfl⟩]) (l9.put (Or.inl ⟨rfl, by omega⟩))
      exact ⟨h', ls', b', N', G, a1, a2, a3, a4, a5, a6, a7, f.tr a8⟩
theorem c_lookAt (kk : KonC MA MB MC X) (hn : n ≤ M) (hM : M ≤ 60000) (bL : ∀ k, k < n → LBd MA MB MC (L k)) (bF : ∀ k, k < n → (B32 (lnF (L k)) ∧ B32 (lnT (L k))) ∧ (-X ≤ lnF (L k) ∧ lnF (L k) ≤ X) ∧ lnF (L k) ≤ lnT (L k)) (hx : B32 x) {h : xH} (q : Lo h r M) (w : CLn h r L n) (c : hI h r 0 = i32 n) :
    ∃ h' ls' b' N', fX1_lookAt r (i32 x) h = some ((), h') ∧ LsI h' r ls' ∧ ls'.length ≤ n ∧ (∀ o, o ∈ ls' ↔ o < n ∧ lnF (L o) ≤ x ∧ x < lnT (L o)) ∧ hI h' r 8 = i32 b' ∧ LoI L n x b' ∧ hI h' r 9 = i32 N' ∧ NxI L n x N' ∧ Fr (AL r) h h' := by
  have f : Fr (AL r) h (sI (sI (sI h r 7 0) r 8 (-1)) r 9 2147483647) := ((Fr.I _ (Or.inl ⟨rfl, Or.inl rfl⟩)).tr (Fr.I _ (Or.inl ⟨rfl, Or.inr (Or.inl rfl)⟩))).tr (Fr.I _ (Or.inl ⟨rfl, Or.inr (Or.inr rfl)⟩))
  obtain ⟨h', ls', b', N', G, a1, a2, a3, a4, a5, a6, a7, a8⟩ := c_look18 (x := x) kk hn hM bL bF hx n 0 FU (sI (sI (sI h r 7 0) r 8 (-1)) r 9 2147483647) [] (-1) 2147483647 (by omega) (by rw [FU_eq]; omega) (f.lo q) (w.fr f (fun j k a b => AL_ln j k a b)) (by rw [hI_sI, if_neg (by omega), hI_sI, if_neg (by omega), hI_sI, if_neg (by omega)]; exact c) ⟨by rw [hI_sI, if_neg (by omega), hI_sI, if_neg (by omega), hI_sI, if_pos ⟨rfl, rfl⟩]; rfl, fun i o e => by simp at e⟩ (by simp) (fun o => ⟨(fun z => by cases z), (fun z => by omega)⟩) (by rw [hI_sI, if_neg (by omega), hI_sI, if_pos ⟨rfl, rfl⟩]; rfl) (Or.inl ⟨rfl, fun m hm => by omega⟩) (by rw [hI_sI, if_pos ⟨rfl, rfl⟩]; rfl) ⟨fun m hm => by omega, Or.inl rfl⟩
  refine ⟨h', ls', b', N', ?_, a1, a2, a3, a4, a5, a6, a7, f.tr a8⟩
  unfold fX1_lookAt
  rw [if_pos q.1, lt_def, lt_def, lt_def, lt_def]
  exact G
end CK
