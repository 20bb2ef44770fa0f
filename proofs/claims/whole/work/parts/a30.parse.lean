/-! READ, pure: the parser that both sides follow -/
abbrev Tap : Type := Nat → Int32
def sk0 (T : Tap) (n : Nat) : Nat → Nat → Nat
  | 0, p => p
  | d + 1, p => if p < n ∧ T p = 32 then sk0 T n d (p + 1) else p
def sk (T : Tap) (n p : Nat) : Nat := sk0 T n n p
def dig (c : Int32) : Bool := decide (48 ≤ c.toInt ∧ c.toInt ≤ 57)
def dv (c : Int32) : Nat := (c.toInt - 48).toNat
def dgs (T : Tap) (n : Nat) : Nat → Nat → Nat → Nat × Nat
  | 0, p, a => (a, p)
  | d + 1, p, a => if p < n ∧ dig (T p) = true then dgs T n d (p + 1) (10 * a + dv (T p)) else (a, p)
def numP (T : Tap) (n least most p : Nat) : Sum Nat (Nat × Nat) :=
  if (dgs T n n (sk T n p) 0).2 = sk T n p ∨ (dgs T n n (sk T n p) 0).1 < least ∨ most < (dgs T n n (sk T n p) 0).1 then .inl (sk T n p) else .inr (dgs T n n (sk T n p) 0)
def fra3 (s : Nat) (less : Bool) (a : Nat) (r : Sum Nat (Nat × Nat)) : Sum Nat (Int × Nat) := match r with
  | .inl f => .inl f
  | .inr (b, p3) => if ¬ (60 * a) % b = 0 ∨ 5940 < 60 * a / b then .inl s else .inr (if less = true then -((60 * a / b : Nat) : Int) else ((60 * a / b : Nat) : Int), p3)
def fra2 (T : Tap) (n s : Nat) (less : Bool) (r : Sum Nat (Nat × Nat)) : Sum Nat (Int × Nat) := match r with
  | .inl f => .inl f
  | .inr (a, p2) => fra3 s less a (if sk T n p2 < n ∧ T (sk T n p2) = 47 then numP T n 1 60 (sk T n p2 + 1) else .inr (1, sk T n p2))
def isM (T : Tap) (n s : Nat) : Bool := decide (s < n ∧ T s = 45)
def fraP (T : Tap) (n p : Nat) : Sum Nat (Int × Nat) := fra2 T n (sk T n p) (isM T n (sk T n p)) (numP T n 0 9999 (if isM T n (sk T n p) = true then sk T n p + 1 else sk T n p))
/-- told knots: how many, x, y, goes on -/
abbrev TS : Type := Nat × (Nat → Int) × (Nat → Int) × (Nat → Bool)
def tN (s : TS) : Nat := s.1
def tX (s : TS) : Nat → Int := s.2.1
def tY (s : TS) : Nat → Int := s.2.2.1
def tG (s : TS) : Nat → Bool := s.2.2.2
def addT (s : TS) (first : Bool) (x y : Int) : TS := (tN s + 1, upA (tX s) (tN s) x, upA (tY s) (tN s) y, if first = true then upA (tG s) (tN s) false else upA (upA (tG s) (tN s) false) (tN s - 1) true)
def early (s : TS) (first : Bool) (x : Int) : Bool := decide (0 < tN s ∧ (if first = true then x < tX s (tN s - 1) else x ≤ tX s (tN s - 1)))
def kno3 (s : TS) (first : Bool) (x : Int) (r : Sum Nat (Int × Nat)) : Sum Nat (TS × Nat) := match r with
  | .inl f => .inl f
  | .inr (y, p2) => .inr (addT s first x y, p2)
def kno2 (T : Tap) (n s0 : Nat) (s : TS) (first : Bool) (r : Sum Nat (Int × Nat)) : Sum Nat (TS × Nat) := match r with
  | .inl f => .inl f
  | .inr (x, p1) => if early s first x = true then .inl s0 else if sk T n p1 < n ∧ T (sk T n p1) = 44 then kno3 s first x (fraP T n (sk T n p1 + 1)) else .inl (sk T n p1)
def knoP (T : Tap) (n : Nat) (first : Bool) (p : Nat) (s : TS) : Sum Nat (TS × Nat) := if 12 ≤ tN s then .inl (sk T n p) else kno2 T n (sk T n p) s first (fraP T n p)
/-- the TEXT from a place on; what comes behind a knot -/
def txtP (T : Tap) (n : Nat) : Nat → Bool → Nat → TS → Sum Nat TS
  | 0, _, p, _ => .inl p
  | d + 1, first, p, s => match knoP T n first p s with
    | .inl f => .inl f
    | .inr (s', p') => if n ≤ sk T n p' then .inr s' else if T (sk T n p') = 124 then txtP T n d true (sk T n p' + 1) s' else txtP T n d false (sk T n p') s'
section PR
variable {T : Tap} {n : Nat}
theorem sk0_b : ∀ (d p : Nat), p ≤ n → p ≤ sk0 T n d p ∧ sk0 T n d p ≤ n := by
  intro d
  induction d with
  | zero => intro p hp; exact ⟨Nat.le_refl _, hp⟩
  | succ d ih =>
    intro p hp
    unfold sk0
    split
    · rename_i c
      have := ih (p + 1) (by omega)
      exact ⟨by omega, this.2⟩
    · exact ⟨Nat.le_refl _, hp⟩
theorem sk_b {p : Nat} (hp : p ≤ n) : p ≤ sk T n p ∧ sk T n p ≤ n := sk0_b n p hp
theorem sk0_st : ∀ (d p : Nat), n ≤ p + d → ¬ (sk0 T n d p < n ∧ T (sk0 T n d p) = 32) := by
  intro d
  induction d with
  | zero => intro p hp z; have := z.1; unfold sk0 at this; omega
  | succ d ih =>
    intro p hp
    unfold sk0
    split
    · exact ih (p + 1) (by omega)
    · rename_i c; exact c
theorem sk_st (p : Nat) : ¬ (sk T n p < n ∧ T (sk T n p) = 32) := sk0_st n p (by omega)
theorem skq_no {p : Nat} (h : ¬ (p < n ∧ T p = 32)) : sk T n p = p := by
  unfold sk
  cases n with
  | zero => rfl
  | succ n => unfold sk0; rw [if_neg h]
theorem sk_sk (p : Nat) : sk T n (sk T n p) = sk T n p := skq_no (sk_st p)
theorem dgs_b : ∀ (d p a : Nat), p ≤ n → p ≤ (dgs T n d p a).2 ∧ (dgs T n d p a).2 ≤ n := by
  intro d
  induction d with
  | zero => intro p a hp; exact ⟨Nat.le_refl _, hp⟩
  | succ d ih =>
    intro p a hp
    unfold dgs
    split
    · rename_i c
      have := ih (p + 1) (10 * a + dv (T p)) (by omega)
      exact ⟨by omega, this.2⟩
    · exact ⟨Nat.le_refl _, hp⟩
theorem num_b {least most p v e : Nat} (hp : p ≤ n) (h : numP T n least most p = .inr (v, e)) : p < e ∧ e ≤ n ∧ least ≤ v ∧ v ≤ most := by
  unfold numP at h
  split at h
  · cases h
  · rename_i c
    have hs := sk_b (T := T) hp
    have hd := dgs_b (T := T) n (sk T n p) 0 hs.2
    have e1 := Sum.inr.inj h
    rw [e1] at hd c
    have h1 := hd.1
    have h2 := hd.2
    dsimp only at c h1 h2
    exact ⟨by omega, h2, by omega, by omega⟩
theorem fra_b {p e : Nat} {v : Int} (hp : p ≤ n) (h : fraP T n p = .inr (v, e)) : p < e ∧ e ≤ n ∧ -5940 ≤ v ∧ v ≤ 5940 := by
  unfold fraP at h
  have hs := sk_b (T := T) hp
  have h1 : (if isM T n (sk T n p) = true then sk T n p + 1 else sk T n p) ≤ n ∧ p ≤ (if isM T n (sk T n p) = true then sk T n p + 1 else sk T n p) := by
    split
    · rename_i c
      have := of_decide_eq_true c
      omega
    · omega
  cases e1 : numP T n 0 9999 (if isM T n (sk T n p) = true then sk T n p + 1 else sk T n p) with
  | inl f => rw [e1] at h; cases h
  | inr r =>
    obtain ⟨a, p2⟩ := r
    rw [e1] at h
    have b1 := num_b h1.1 e1
    have hs2 := sk_b (T := T) b1.2.1
    unfold fra2 at h
    dsimp only at h
    have key : ∀ r : Sum Nat (Nat × Nat), fra3 (sk T n p) (isM T n (sk T n p)) a r = .inr (v, e) → (∀ b p3, r = .inr (b, p3) → sk T n p2 ≤ p3 ∧ p3 ≤ n) → p < e ∧ e ≤ n ∧ -5940 ≤ v ∧ v ≤ 5940 := by
      intro r hr hb
      cases r with
      | inl f => cases hr
      | inr bp =>
        obtain ⟨b, p3⟩ := bp
        have hb := hb b p3 rfl
        unfold fra3 at hr
        dsimp only at hr
        split at hr
        · cases hr
        · rename_i c
          have e3 := Sum.inr.inj hr
          have ev0 := congrArg Prod.fst e3
          have ee := congrArg Prod.snd e3
          dsimp only at ev0 ee
          have c2 : 60 * a / b ≤ 5940 := by
            by_cases z : 60 * a / b ≤ 5940
            · exact z
            · exact absurd (Or.inr (Nat.lt_of_not_le z)) c
          generalize 60 * a / b = D at c2 ev0
          refine ⟨by omega, by omega, ?_, ?_⟩
          · rw [← ev0]; split <;> omega
          · rw [← ev0]; split <;> omega
    refine key _ h (fun b p3 e2 => ?_)
    split at e2
    · rename_i c
      have := num_b (show sk T n p2 + 1 ≤ n by omega) e2
      omega
    · have e3 := congrArg Prod.snd (Sum.inr.inj e2)
      dsimp only at e3
      omega
/-- told knots are in order -/
def TOk (s : TS) : Prop := tN s ≤ 12 ∧ (∀ k, k < tN s → (-5940 ≤ tX s k ∧ tX s k ≤ 5940) ∧ (-5940 ≤ tY s k ∧ tY s k ≤ 5940)) ∧ (∀ k, k + 1 < tN s → tX s k ≤ tX s (k + 1)) ∧ ∀ k, k < tN s → tG s k = true → k + 1 < tN s ∧ tX s k < tX s (k + 1)
theorem add_ok {s : TS} {first : Bool} {x y : Int} (h : TOk s) (hN : tN s < 12) (he : early s first x = false) (hf : first = false → 0 < tN s) (bx : -5940 ≤ x ∧ x ≤ 5940) (by0 : -5940 ≤ y ∧ y ≤ 5940) : TOk (addT s first x y) := by
  obtain ⟨h1, h2, h3, h4⟩ := h
  have he := of_decide_eq_false he
  have eN : tN (addT s first x y) = tN s + 1 := rfl
  have eX : ∀ k, tX (addT s first x y) k = if k = tN s then x else tX s k := fun k => rfl
  have eY : ∀ k, tY (addT s first x y) k = if k = tN s then y else tY s k := fun k => rfl
  have lx : 0 < tN s → (first = true → tX s (tN s - 1) ≤ x) ∧ (first = false → tX s (tN s - 1) < x) := by
    intro z
    cases first with
    | true => rw [if_pos rfl] at he; exact ⟨(fun _ => by omega), (fun z => by cases z)⟩
    | false => rw [if_neg (by decide)] at he; exact ⟨(fun z => by cases z), (fun _ => by omega)⟩
  refine ⟨by omega, fun k hk => ?_, fun k hk => ?_, fun k hk hg => ?_⟩
  · rw [eX, eY]
    by_cases c : k = tN s
    · rw [if_pos c, if_pos c]; exact ⟨bx, by0⟩
    · rw [if_neg c, if_neg c]; exact h2 k (by omega)
  · rw [eX, eX, if_neg (by omega)]
    by_cases c : k + 1 = tN s
    · rw [if_pos c]
      have := lx (by omega)
      rw [show k = tN s - 1 by omega]
      cases first with
      | true => exact this.1 rfl
      | false => have := this.2 rfl; omega
    · rw [if_neg c]; exact h3 k (by omega)
  · rw [eN, eX, eX]
    cases first with
    | true =>
      have hg : upA (tG s) (tN s) false k = true := hg
      unfold upA at hg
      by_cases c : k = tN s
      · rw [if_pos c] at hg; cases hg
      · rw [if_neg c] at hg
        have := h4 k (by omega) hg
        rw [if_neg c, if_neg (by omega)]
        exact ⟨by omega, this.2⟩
    | false =>
      have hN0 := hf rfl
      have hg : upA (upA (tG s) (tN s) false) (tN s - 1) true k = true := hg
      by_cases c : k = tN s - 1
      · rw [if_neg (by omega), if_pos (by omega), c]
        exact ⟨by omega, (lx hN0).2 rfl⟩
      · unfold upA at hg
        rw [if_neg c] at hg
        by_cases c2 : k = tN s
        · rw [if_pos c2] at hg; cases hg
        · rw [if_neg c2] at hg
          have := h4 k (by omega) hg
          rw [if_neg c2, if_neg (by omega)]
          exact ⟨by omega, this.2⟩
theorem kno_ok {s s' : TS} {first : Bool} {p e : Nat} (h : TOk s) (hp : p ≤ n) (hf : first = false → 0 < tN s) (hk : knoP T n first p s = .inr (s', e)) : TOk s' ∧ p < e ∧ e ≤ n ∧ tN s' = tN s + 1 := by
  unfold knoP at hk
  split at hk
  · cases hk
  · rename_i c
    cases e1 : fraP T n p with
    | inl f => rw [e1] at hk; cases hk
    | inr r =>
      obtain ⟨x, p1⟩ := r
      rw [e1] at hk
      have b1 := fra_b hp e1
      have hs := sk_b (T := T) b1.2.1
      unfold kno2 at hk
      dsimp only at hk
      split at hk
      · cases hk
      · rename_i ce
        split at hk
        · rename_i c2
          cases e2 : fraP T n (sk T n p1 + 1) with
          | inl f => rw [e2] at hk; cases hk
          | inr r =>
            obtain ⟨y, p2⟩ := r
            rw [e2] at hk
            have b2 := fra_b (show sk T n p1 + 1 ≤ n by omega) e2
            have e3 := Sum.inr.inj hk
            have es := congrArg Prod.fst e3
            have ee := congrArg Prod.snd e3
            dsimp only at es ee
            refine ⟨?_, by omega, by omega, ?_⟩
            · rw [← es]
              exact add_ok h (by omega) (by cases hh : early s first x; rfl; exact absurd hh ce) hf b1.2.2 b2.2.2
            · rw [← es]; rfl
        · cases hk
/-- a sign that begins no knot -/
theorem kno_bad {s : TS} {q : Nat} (h0 : ¬ (q < n ∧ T q = 32)) (h1 : dig (T q) = false) (h2 : ¬ T q = 45) : knoP T n false q s = .inl q := by
  have es := skq_no h0
  have em : isM T n q = false := decide_eq_false (fun z => h2 z.2)
  have ed : dgs T n n q 0 = (0, q) := by
    cases n with
    | zero => rfl
    | succ n => unfold dgs; rw [if_neg (fun z => by rw [h1] at z; cases z.2)]
  have en : numP T n 0 9999 q = .inl q := by
    unfold numP
    rw [es, ed, if_pos (Or.inl rfl)]
  have ef : fraP T n q = .inl q := by
    unfold fraP
    rw [es, em, if_neg (by decide), en]
    rfl
  unfold knoP
  rw [es, ef]
  split <;> rfl
end PR
