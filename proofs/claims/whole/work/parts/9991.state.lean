/-! THE WHOLE STATE: stores and paper, what can be undone, images, tape, fault, status, refusals -/
abbrev Ast : Type := (Nat → List Kn) × Und × (Nat → Option (Nat → List Kn)) × (Nat × (Nat → Int32)) × Int32 × Int32 × (Nat → Int32)
def aC (S : Ast) : Nat → List Kn := S.1
def aU (S : Ast) : Und := S.2.1
def aI (S : Ast) : Nat → Option (Nat → List Kn) := S.2.2.1
def aT (S : Ast) : Nat × (Nat → Int32) := S.2.2.2.1
def aF (S : Ast) : Int32 := S.2.2.2.2.1
def aS (S : Ast) : Int32 := S.2.2.2.2.2.1
def aR (S : Ast) : Nat → Int32 := S.2.2.2.2.2.2
def snL : (Nat → List Kn) → Und → Sns
  | _, [] => []
  | cur, u :: r => (u.1, upA cur u.2.1 u.2.2) :: snL (upA cur u.2.1 u.2.2) r
theorem snL_len : ∀ (und : Und) (cur : Nat → List Kn), (snL cur und).length = und.length := by
  intro und
  induction und with
  | nil => intro cur; rfl
  | cons u r ih => intro cur; show (snL _ r).length + 1 = r.length + 1; rw [ih]
theorem snL_take : ∀ (und : Und) (n : Nat) (cur : Nat → List Kn), snL cur (und.take n) = (snL cur und).take n := by
  intro und
  induction und with
  | nil => intro n cur; cases n <;> rfl
  | cons u r ih =>
    intro n cur
    cases n with
    | zero => rfl
    | succ n => show (u.1, upA cur u.2.1 u.2.2) :: snL _ (r.take n) = (u.1, upA cur u.2.1 u.2.2) :: (snL _ r).take n; rw [ih]
theorem upA_back (cur : Nat → List Kn) (i : Nat) (ks : List Kn) : upA (upA cur i ks) i (cur i) = cur := by
  funext p
  unfold upA
  by_cases c : p = i
  · rw [if_pos c, c]
  · rw [if_neg c, if_neg c]
def sumQ (f : Nat → Nat) : Nat → Int
  | 0 => 0
  | n + 1 => sumQ f n + (f n : Int)
theorem sumQ_upA (f : Nat → Nat) (q v : Nat) : ∀ n, sumQ (upA f q v) n = if q < n then sumQ f n - (f q : Int) + (v : Int) else sumQ f n := by
  intro n
  induction n with
  | zero => rw [if_neg (by omega)]; rfl
  | succ n ih =>
    show sumQ (upA f q v) n + ((upA f q v n : Nat) : Int) = _
    rw [ih]
    unfold upA
    by_cases c : n = q
    · rw [if_pos c, if_neg (by omega), if_pos (by omega)]
      show _ = sumQ f n + (f n : Int) - (f q : Int) + (v : Int)
      rw [c]; omega
    · rw [if_neg c]
      by_cases c2 : q < n
      · rw [if_pos c2, if_pos (by omega)]
        show _ = sumQ f n + (f n : Int) - (f q : Int) + (v : Int)
        omega
      · rw [if_neg c2, if_neg (by omega)]; rfl
theorem sumQ_swp (f : Nat → Nat) {a b n : Nat} (ha : a < n) (hb : b < n) (ab : a ≠ b) : sumQ (fun q => f (swp a b q)) n = sumQ f n := by
  have e1 : (fun q => f (swp a b q)) = upA (upA f a (f b)) b (f a) := by
    funext q
    unfold swp upA
    by_cases c1 : q = b
    · rw [if_pos c1, if_neg (by omega), if_pos c1]
    · rw [if_neg c1]
      by_cases c2 : q = a
      · rw [if_pos c2, if_pos c2, if_neg c1]
      · rw [if_neg c2, if_neg c2, if_neg c1]
  rw [e1, sumQ_upA, if_pos hb, sumQ_upA, if_pos ha]
  have : upA f a (f b) b = f b := by unfold upA; rw [if_neg (Ne.symm ab)]
  rw [this]; omega
theorem sumQ_rot (f : Nat → Nat) {a b c n : Nat} (ha : a < n) (hb : b < n) (hc : c < n) (ab : a ≠ b) (bc : b ≠ c) (ac : a ≠ c) : sumQ (fun q => f (rot a b c q)) n = sumQ f n := by
  have e1 : (fun q => f (rot a b c q)) = upA (upA (upA f a (f b)) b (f c)) c (f a) := by
    funext q
    unfold rot upA
    by_cases c1 : q = c
    · rw [if_pos c1, if_neg (by omega), if_neg (by omega), if_pos c1]
    · rw [if_neg c1]
      by_cases c2 : q = b
      · rw [if_pos c2, if_neg (by omega), if_pos c2, if_neg c1]
      · rw [if_neg c2]
        by_cases c3 : q = a
        · rw [if_pos c3, if_pos c3, if_neg c1, if_neg c2]
        · rw [if_neg c3, if_neg c3, if_neg c2, if_neg c1]
  rw [e1, sumQ_upA, if_pos hc, sumQ_upA, if_pos hb, sumQ_upA, if_pos ha]
  have t1 : upA f a (f b) b = f b := by unfold upA; rw [if_neg (Ne.symm ab)]
  have t2 : upA (upA f a (f b)) b (f c) c = f c := by unfold upA; rw [if_neg (Ne.symm bc), if_neg (Ne.symm ac)]
  rw [t1, t2]; omega
def Room (h : xH) (cap : Nat → Nat) : Prop := (cnt h : Int) ≤ 5 * sumQ cap 30 ∧ (siz h : Int) ≤ 10 * sumQ cap 30 + 400000
/-- the small cells of the class -/
def CSm (h : xH) (S : Ast) : Prop := (∀ k, k < 7 → hI h 66 k = aR S k) ∧ hI h 64 0 = i32 ((aT S).1 : Int) ∧ hI h 64 1 = aF S ∧ ∀ k, k < (aT S).1 → hI h 65 k = (aT S).2 k
def CSt (h : xH) (S : Ast) : Prop := ∃ cap lst, ClI h cap lst (aU S) (aI S) ∧ (∀ i, i < 7 → lst i = aC S i) ∧ Room h cap ∧ hI h 2 6 = aS S ∧ CSm h S
/-- the small cells of the reference -/
def MSm (h : xH) (S : Ast) : Prop := (∀ k, k < 7 → hI h 221 k = aR S k) ∧ hI h 220 36 = i32 ((aT S).1 : Int) ∧ hI h 220 37 = aF S ∧ ∀ k, k < (aT S).1 → hI h 246 k = (aT S).2 k
def MIm (h : xH) (img : Nat → Option (Nat → List Kn)) : Prop := ∀ k, k < 2 → hI h 234 k = bz (img k).isSome ∧ ∀ f, img k = some f → Snp h 230 231 232 233 k f
def MSt (h : xH) (S : Ast) : Prop := MI0 h (aC S) ∧ UnM h (snL (aC S) (aU S)) ∧ MIm h (aI S) ∧ hI h 220 1 = aS S ∧ MSm h S
def AOk (S : Ast) : Prop := CurOk (aC S) ∧ (∀ u ∈ snL (aC S) (aU S), CurOk u.2) ∧ (∀ k f, k < 2 → aI S k = some f → CurOk f) ∧ (aT S).1 ≤ 400
def In220 (r _k : Nat) : Prop := 220 ≤ r ∧ r < 250
/-- the reference's cells stand as they were -/
def Out (h h' : xH) : Prop := (∀ r, 220 ≤ r → r < 250 → xkd h' r = xkd h r) ∧ ∀ r k, 220 ≤ r → r < 250 → hI h' r k = hI h r k ∧ hJ h' r k = hJ h r k ∧ hR h' r k = hR h r k
theorem Out.rf (h : xH) : Out h h := ⟨fun _ _ _ => rfl, fun _ _ _ _ => ⟨rfl, rfl, rfl⟩⟩
theorem Out.tr {a b c : xH} (u : Out a b) (v : Out b c) : Out a c := ⟨fun r p q => (v.1 r p q).trans (u.1 r p q), fun r k p q => ⟨(v.2 r k p q).1.trans (u.2 r k p q).1, (v.2 r k p q).2.1.trans (u.2 r k p q).2.1, (v.2 r k p q).2.2.trans (u.2 r k p q).2.2⟩⟩
theorem Gr.out {A : Nat → Nat → Prop} {h h' : xH} (g : Gr A h h') (hn : 250 ≤ hnx h) (hA : ∀ r k, 220 ≤ r → r < 250 → ¬ A r k) : Out h h' := ⟨fun r p q => g.1.xkd (by omega), fun r k p q => g.2 r k (by omega) (hA r k p q)⟩
theorem Fr.out {A : Nat → Nat → Prop} {h h' : xH} (f : Fr A h h') (hA : ∀ r k, 220 ≤ r → r < 250 → ¬ A r k) : Out h h' := ⟨fun r p q => by unfold xkd; rw [f.1], fun r k p q => ⟨(f.2.2 r k (hA r k p q)).1, (f.2.2 r k (hA r k p q)).2, f.ehR r k⟩⟩
theorem Kept.out {h h' : xH} (k0 : Kept h h') : Out h h' := ⟨fun r p q => by unfold xkd; rw [k0.1], fun r k p q => ⟨(k0.2.2.2 r k (by omega) (by omega) (by omega) (by omega)).1, (k0.2.2.2 r k (by omega) (by omega) (by omega) (by omega)).2, k0.2.2.1 r k (by omega) (by omega) (by omega)⟩⟩
section ST
variable {h h' : xH} {S : Ast}
theorem Snp.out {r1 r2 r3 r4 k : Nat} {f : Nat → List Kn} (s : Snp h r1 r2 r3 r4 k f) (o : Out h h') (b : (220 ≤ r1 ∧ r1 < 250) ∧ (220 ≤ r2 ∧ r2 < 250) ∧ (220 ≤ r3 ∧ r3 < 250) ∧ (220 ≤ r4 ∧ r4 < 250)) : Snp h' r1 r2 r3 r4 k f := by
  obtain ⟨b1, b2, b3, b4⟩ := b
  have o1 : ∀ c, hI h' r1 c = hI h r1 c := fun c => (o.2 r1 c b1.1 b1.2).1
  have o3 : ∀ c, hJ h' r3 c = hJ h r3 c := fun c => (o.2 r3 c b3.1 b3.2).2.1
  refine ⟨fun i hi => ⟨by rw [o1]; exact (s.1 i hi).1, fun m hm => by rw [o1, o1, o1]; exact (s.1 i hi).2 m hm⟩, by rw [(o.2 r2 k b2.1 b2.2).1]; exact s.2.1, fun n kn e0 => ?_⟩
  rw [o3, o3, o3, o3, (o.2 r4 _ b4.1 b4.2).1]
  exact s.2.2 n kn e0
theorem MSt.out (M : MSt h S) (o : Out h h') : MSt h' S := by
  obtain ⟨m1, m2, m3, m4, m5⟩ := M
  have oi : ∀ r c, 220 ≤ r → r < 250 → hI h' r c = hI h r c := fun r c p q => (o.2 r c p q).1
  have oj : ∀ r c, 220 ≤ r → r < 250 → hJ h' r c = hJ h r c := fun r c p q => (o.2 r c p q).2.1
  refine ⟨⟨⟨fun r p q => ?_, fun k => ?_⟩, fun i hi => ⟨?_, fun k hk => ?_⟩, fun i k e0 => ?_, ?_⟩, ?_, fun k hk => ⟨?_, fun f ef => ?_⟩, ?_, fun k hk => ?_, ?_, ?_, fun k hk => ?_⟩
  · rw [o.1 r p q]; exact m1.1.1 r p q
  · rw [(o.2 220 k (by decide) (by decide)).2.2]; exact m1.1.2 k
  · rw [oi 222 _ (by decide) (by decide)]; exact (m1.2.1 i hi).1
  · rw [oi 222 _ (by decide) (by decide), oi 222 _ (by decide) (by decide), oi 222 _ (by decide) (by decide)]; exact (m1.2.1 i hi).2 k hk
  · rw [oj 223 _ (by decide) (by decide), oj 223 _ (by decide) (by decide), oj 223 _ (by decide) (by decide), oj 223 _ (by decide) (by decide), oi 224 _ (by decide) (by decide)]; exact m1.2.2.1 i k e0
  · rw [oi 220 _ (by decide) (by decide)]; exact m1.2.2.2
  · obtain ⟨fu, u1, u2, u3, u4, u5⟩ := m2
    refine ⟨fu, u1, by rw [oi 220 _ (by decide) (by decide)]; exact u2, u3, by rw [oi 220 _ (by decide) (by decide)]; exact u4, fun t u e0 => ⟨(u5 t u e0).1.out o (by decide), by rw [oi 229 _ (by decide) (by decide)]; exact (u5 t u e0).2⟩⟩
  · rw [oi 234 _ (by decide) (by decide)]; exact (m3 k hk).1
  · exact ((m3 k hk).2 f ef).out o (by decide)
  · rw [oi 220 _ (by decide) (by decide)]; exact m4
  · rw [oi 221 _ (by decide) (by decide)]; exact m5.1 k hk
  · rw [oi 220 _ (by decide) (by decide)]; exact m5.2.1
  · rw [oi 220 _ (by decide) (by decide)]; exact m5.2.2.1
  · rw [oi 246 _ (by decide) (by decide)]; exact m5.2.2.2 k hk
theorem CSt.inn (C : CSt h S) (f : Fr In220 h h') : CSt h' S := by
  obtain ⟨cap, lst, c1, c2, c3, c4, c5⟩ := C
  have o : ∀ r c, r < 220 → hI h' r c = hI h r c := fun r c p => (f.2.2 r c (fun z => by have := z.1; omega)).1
  have ec : cnt h' = cnt h ∧ siz h' = siz h := by unfold cnt siz; rw [f.1]; exact ⟨rfl, rfl⟩
  refine ⟨cap, lst, c1.fr f (fun r k fr z => by have := fr.2.2; have := z.1; have := z.2; omega) (fun k => ⟨fun z => by have := z.1; omega, fun z => by have := z.1; omega, fun z => by have := z.1; omega, fun z => by have := z.1; omega⟩), c2, by unfold Room; rw [ec.1, ec.2]; exact c3, by rw [o 2 6 (by decide)]; exact c4, fun k hk => by rw [o 66 k (by decide)]; exact c5.1 k hk, by rw [o 64 0 (by decide)]; exact c5.2.1, by rw [o 64 1 (by decide)]; exact c5.2.2.1, fun k hk => by rw [o 65 k (by decide)]; exact c5.2.2.2 k hk⟩
/-- the state after an act -/
def actA (S : Ast) (act : Int) (slot : Nat) (ks : List Kn) : Ast := (upA (aC S) slot ks, (act, slot, aC S slot) :: (aU S).take 7, aI S, aT S, aF S, 0, aR S)
theorem snL_act (S : Ast) (act : Int) (slot : Nat) (ks : List Kn) : snL (aC (actA S act slot ks)) (aU (actA S act slot ks)) = (act, aC S) :: (snL (aC S) (aU S)).take 7 := by
  show (act, upA (upA (aC S) slot ks) slot (aC S slot)) :: snL (upA (upA (aC S) slot ks) slot (aC S slot)) ((aU S).take 7) = _
  rw [upA_back, snL_take]
theorem AOk.act {act : Int} {slot : Nat} {ks : List Kn} (A : AOk S) (C : CurOk (upA (aC S) slot ks)) : AOk (actA S act slot ks) := by
  refine ⟨C, fun u hu => ?_, A.2.2.1, A.2.2.2⟩
  rw [snL_act] at hu
  rcases List.mem_cons.mp hu with e0 | e0
  · rw [e0]; exact A.1
  · exact A.2.1 u (List.mem_of_mem_take e0)
/-- the spare shape is written, then settled -/
theorem c_act {B : Nat → Nat → Prop} {cap : Nat → Nat} {lst : Nat → List Kn} {cap' slot : Nat} {ks' : List Kn} {act : Int} (I : ClI h cap lst (aU S) (aI S)) (hc : ∀ i, i < 7 → lst i = aC S i) (rm : Room h cap) (hs : slot < 7) (sm : CSm h S) (r0 : Rm h h' (cap 7) cap') (rw0 : Rw h h' (sh h 7)) (g : Gr (fun r k => AX h (sh h 7) r k ∨ B r k) h h') (hB : ∀ r k, B r k → 67 ≤ r ∧ r ≤ 93 ∧ crf r k = none) (W' : ShK h' (sh h 7) cap' ks') : ∃ h2, fX6_settle 2 (i32 act) (i32 (slot : Int)) h' = some (i32 (ks'.length : Int), h2) ∧ CSt h2 (actA S act slot ks') ∧ Out h h2 := by
  obtain ⟨SI, ⟨nx, n1, n2, n3, n4, n5⟩, im⟩ := I
  have hn := SI.2.2.2.2
  have ckB : ∀ r k, B r k → (∃ x, ckd r = some x) ∧ crf r k = none ∧ r ≠ 2 ∧ r ≠ 3 ∧ r ≠ 13 ∧ r ≠ 62 := by
    intro r k z
    obtain ⟨b1, b2, b3⟩ := hB r k z
    refine ⟨?_, b3, by omega, by omega, by omega, by omega⟩
    rcases (show r = 67 ∨ r = 68 ∨ r = 69 ∨ r = 70 ∨ r = 71 ∨ r = 72 ∨ r = 73 ∨ r = 74 ∨ r = 75 ∨ r = 76 ∨ r = 77 ∨ r = 78 ∨ r = 79 ∨ r = 80 ∨ r = 81 ∨ r = 82 ∨ r = 83 ∨ r = 84 ∨ r = 85 ∨ r = 86 ∨ r = 87 ∨ r = 88 ∨ r = 89 ∨ r = 90 ∨ r = 91 ∨ r = 92 ∨ r = 93 by omega) with e | e | e | e | e | e | e | e | e | e | e | e | e | e | e | e | e | e | e | e | e | e | e | e | e | e | e <;> rw [e] <;> exact ⟨_, rfl⟩
  obtain ⟨SI', es⟩ := SI.st (by decide) rw0 g ckB W'
  have low : ∀ r k, r < 67 → (∃ x, ckd r = some x) → hI h' r k = hI h r k := by
    intro r k hr hck
    refine (g.2 r k (by omega) (fun z => ?_)).1
    rcases z with z | z
    · have := (SI.2.2.2.1 7 (by decide) r k z).2.1
      obtain ⟨x, ex⟩ := hck
      rw [this] at ex; cases ex
    · have := (hB r k z).1; omega
  have I' : ClI h' (upA cap 7 cap') (upA lst 7 ks') (aU S) (aI S) := by
    refine ⟨SI', ⟨nx, n1, by rw [low 10 2 (by decide) ⟨_, rfl⟩]; exact n2, n3, by rw [low 10 0 (by decide) ⟨_, rfl⟩]; exact n4, fun t u e0 => ?_⟩, fun k hk => ⟨by rw [low 63 k (by decide) ⟨_, rfl⟩]; exact (im k hk).1, fun f ef i hi => ?_⟩⟩
    · rw [low 11 _ (by decide) ⟨_, rfl⟩, low 12 _ (by decide) ⟨_, rfl⟩]
      have v := n5 t u e0
      refine ⟨v.1, v.2.1, v.2.2.1, ?_⟩
      show upA lst 7 ks' (8 + (nx + 7 - t) % 8) = u.2.2
      unfold upA
      rw [if_neg (by omega)]; exact v.2.2.2
    · show upA lst 7 ks' (16 + 7 * k + i) = f i
      unfold upA
      rw [if_neg (by omega)]; exact (im k hk).2 f ef i hi
  obtain ⟨h2, mx, m1, E2, I2, K2, st2⟩ := c_settle (act := act) I' hs
  have e7 : upA lst 7 ks' 7 = ks' := by unfold upA; rw [if_pos rfl]
  have eS : upA lst 7 ks' slot = aC S slot := by unfold upA; rw [if_neg (by omega)]; exact hc slot hs
  rw [e7] at E2
  rw [eS] at I2
  have o1 : Out h h' := g.out hn (fun r k p q z => by
    rcases z with z | z
    · have := (SI.2.2.2.1 7 (by decide) r k z).2.2; omega
    · have := hB r k z; omega)
  refine ⟨h2, E2, ⟨_, _, I2, fun i hi => ?_, ?_, st2, ?_⟩, o1.tr K2.out⟩
  · show upA lst 7 ks' (rot slot 7 (8 + mx) i) = upA (aC S) slot ks' i
    unfold rot
    by_cases c : i = slot
    · rw [if_pos c, e7]; unfold upA; rw [if_pos c]
    · rw [if_neg c, if_neg (by omega), if_neg (by omega)]
      unfold upA
      rw [if_neg (by omega), if_neg c]; exact hc i hi
  · have sq : sumQ (fun q => upA cap 7 cap' (rot slot 7 (8 + mx) q)) 30 = sumQ cap 30 - (cap 7 : Int) + (cap' : Int) := by
      rw [sumQ_rot _ (by omega) (by decide) (by omega) (by omega) (by omega) (by omega), sumQ_upA, if_pos (by decide)]
    have ec : cnt h2 = cnt h' ∧ siz h2 = siz h' := by unfold cnt siz; rw [K2.1]; exact ⟨rfl, rfl⟩
    obtain ⟨p1, p2, p3⟩ := r0
    obtain ⟨w1, w2⟩ := rm
    refine ⟨?_, ?_⟩
    · rw [sq, ec.1]; omega
    · rw [sq, ec.2]; omega
  · refine ⟨fun k hk => ?_, ?_, ?_, fun k hk => ?_⟩
    · rw [(K2.2.2.2 66 k (by decide) (by decide) (by decide) (by omega)).1, low 66 k (by decide) ⟨_, rfl⟩]; exact sm.1 k hk
    · rw [(K2.2.2.2 64 0 (by decide) (by decide) (by decide) (by omega)).1, low 64 0 (by decide) ⟨_, rfl⟩]; exact sm.2.1
    · rw [(K2.2.2.2 64 1 (by decide) (by decide) (by decide) (by omega)).1, low 64 1 (by decide) ⟨_, rfl⟩]; exact sm.2.2.1
    · rw [(K2.2.2.2 65 k (by decide) (by decide) (by decide) (by omega)).1, low 65 k (by decide) ⟨_, rfl⟩]; exact sm.2.2.2 k hk
end ST
