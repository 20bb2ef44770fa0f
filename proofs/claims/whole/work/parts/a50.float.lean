/-! The floats that bits meets: datum (s, c, q) with 2^23 ≤ c < 2^24. -/
def FF (s : Bool) (c : Nat) (q : Int) : UInt32 := UInt32.ofNat (Jvm.FP.Core.encode Jvm.FP.Core.b32 (.fin s c q))
def NF (c : Nat) (q : Int) : Prop := 8388608 ≤ c ∧ c < 16777216 ∧ -149 ≤ q ∧ q ≤ 104
theorem NF.lo {c : Nat} {q : Int} (N : NF c q) : 8388608 ≤ c := N.1
theorem NF.hi {c : Nat} {q : Int} (N : NF c q) : c < 16777216 := N.2.1
theorem NF.ql {c : Nat} {q : Int} (N : NF c q) : -149 ≤ q := N.2.2.1
theorem NF.qh {c : Nat} {q : Int} (N : NF c q) : q ≤ 104 := N.2.2.2
theorem ff_enc (s : Bool) {c : Nat} {q : Int} (N : NF c q) : Jvm.FP.Core.encode Jvm.FP.Core.b32 (.fin s c q) = (s.toNat * 256 + ((q + 149).toNat + 1)) * 8388608 + (c - 8388608) := by
  show (if c < 8388608 then _ else _) = _
  rw [if_neg (by have := N.lo; omega)]
  show (s.toNat * 256 + ((q - -149).toNat + 1)) * 8388608 + (c - 8388608) = _
  rw [show q - -149 = q + 149 by omega]
theorem ff_nat (s : Bool) {c : Nat} {q : Int} (N : NF c q) : (FF s c q).toNat = (s.toNat * 256 + ((q + 149).toNat + 1)) * 8388608 + (c - 8388608) := by
  unfold FF
  rw [ff_enc s N]
  have := N.hi; have := N.qh; have := N.ql
  have : s.toNat ≤ 1 := by cases s <;> decide
  exact UInt32.toNat_ofNat_of_lt' (by show _ < 4294967296; omega)
theorem ff_dec (s : Bool) {c : Nat} {q : Int} (N : NF c q) : Jvm.FP.Core.decode Jvm.FP.Core.b32 (FF s c q).toNat = .fin s c q := by
  rw [ff_nat s N]
  have h1 := N.lo; have h2 := N.hi; have h3 := N.ql; have h4 := N.qh
  obtain ⟨n, hn⟩ : ∃ n, n = (s.toNat * 256 + ((q + 149).toNat + 1)) * 8388608 + (c - 8388608) := ⟨_, rfl⟩
  have hs : s.toNat ≤ 1 := by cases s <;> decide
  rw [← hn]
  have fT : n % 8388608 = c - 8388608 := by omega
  have fE : n / 8388608 % 256 = (q + 149).toNat + 1 := by omega
  have fS : n / 8388608 / 256 % 2 = s.toNat := by omega
  have eS : (n / 8388608 / 256 % 2 == 1) = s := by rw [fS]; cases s <;> rfl
  show (if n / 8388608 % 256 = 255 then _ else if n / 8388608 % 256 = 0 then _ else Jvm.FP.Core.Datum.fin (n / 8388608 / 256 % 2 == 1) (8388608 + n % 8388608) (-149 + (((n / 8388608 % 256 : Nat) : Int) - 1))) = _
  rw [if_neg (by omega), if_neg (by omega), eS, fT, fE, show 8388608 + (c - 8388608) = c by omega, show -149 + ((((q + 149).toNat + 1 : Nat) : Int) - 1) = q by omega]
theorem ff_ok (s : Bool) {c : Nat} {q : Int} (N : NF c q) : FF s c q &&& 0x7fffffff ≤ 0x7f800000 := by
  rw [UInt32.le_iff_toNat_le, UInt32.toNat_and, ff_nat s N]
  show _ &&& (2 ^ 31 - 1) ≤ 2139095040
  rw [Nat.and_two_pow_sub_one_eq_mod]
  have := N.hi; have := N.qh; have := N.ql
  have : s.toNat ≤ 1 := by cases s <;> decide
  omega
/-! rounding -/
theorem near_le {M n d : Nat} (d0 : 0 < d) (h : n ≤ M * d) : Jvm.FP.Core.nearest n d ≤ M := by
  unfold Jvm.FP.Core.nearest
  have e := Nat.div_add_mod n d
  have l := Nat.mod_lt n d0
  have q1 : n / d ≤ M := Nat.div_le_of_le_mul (by rw [Nat.mul_comm]; exact h)
  split
  · exact q1
  · have q2 : n / d < M := by
      refine Nat.lt_of_le_of_ne q1 (fun z => ?_)
      rw [z, Nat.mul_comm] at e
      omega
    split
    · omega
    · omega
theorem near_ge {M n d : Nat} (d0 : 0 < d) (h : M * d ≤ n) : M ≤ Jvm.FP.Core.nearest n d := by
  unfold Jvm.FP.Core.nearest
  have q1 : M ≤ n / d := (Nat.le_div_iff_mul_le d0).mpr h
  split
  · exact q1
  · split
    · omega
    · omega
theorem near_eq {M d : Nat} (d0 : 0 < d) : Jvm.FP.Core.nearest (M * d) d = M := Nat.le_antisymm (near_le d0 (Nat.le_refl _)) (near_ge d0 (Nat.le_refl _))
theorem rr_gen (s : Bool) {num den : Nat} {e k : Int} (hn : num ≠ 0) (d0 : 0 < den) (hl : Jvm.FP.Core.leading num den = k) (lo : 8388608 * (den * 2 ^ (k - 23).toNat) ≤ num * 2 ^ (23 - k).toNat) (hi : num * 2 ^ (23 - k).toNat ≤ 16777216 * (den * 2 ^ (k - 23).toNat)) (r1 : -149 ≤ k + e - 23) (r2 : k + e - 23 < 104) : ∃ c q, Jvm.FP.Core.roundRatio Jvm.FP.Core.b32 s num den e = .fin s c q ∧ NF c q ∧ k + e - 23 ≤ q ∧ q ≤ k + e - 22 := by
  unfold Jvm.FP.Core.roundRatio
  rw [if_neg hn]
  have eq : Jvm.FP.Core.quantum Jvm.FP.Core.b32 num den e = k + e - 23 := by
    unfold Jvm.FP.Core.quantum
    rw [hl]
    show max (-149) (k + e - 23) = _
    omega
  rw [eq]
  unfold Jvm.FP.Core.roundAt Jvm.FP.Core.unitsNum Jvm.FP.Core.unitsDen
  rw [show e - (k + e - 23) = 23 - k by omega, show k + e - 23 - e = k - 23 by omega]
  have dp : 0 < den * 2 ^ (k - 23).toNat := Nat.mul_pos d0 (Nat.two_pow_pos _)
  have n1 := near_ge dp lo
  have n2 := near_le dp hi
  obtain ⟨c, hc⟩ : ∃ c, c = Jvm.FP.Core.nearest (num * 2 ^ (23 - k).toNat) (den * 2 ^ (k - 23).toNat) := ⟨_, rfl⟩
  rw [← hc] at n1 n2 ⊢
  by_cases h : c < 16777216
  · refine ⟨c, k + e - 23, ?_, ⟨n1, h, r1, by omega⟩, by omega, by omega⟩
    show (if c < 16777216 then (if k + e - 23 ≤ 104 then _ else _) else _) = _
    rw [if_pos h, if_pos (by omega)]
  · refine ⟨8388608, k + e - 23 + 1, ?_, ⟨by decide, by decide, by omega, by omega⟩, by omega, by omega⟩
    show (if c < 16777216 then _ else (if k + e - 23 + 1 ≤ 104 then _ else _)) = _
    rw [if_neg h, if_pos (by omega)]
    rfl
theorem rr_eq (s : Bool) {num den c : Nat} {e k : Int} (hn : num ≠ 0) (d0 : 0 < den) (hl : Jvm.FP.Core.leading num den = k) (ex : num * 2 ^ (23 - k).toNat = c * (den * 2 ^ (k - 23).toNat)) (N : NF c (k + e - 23)) : Jvm.FP.Core.roundRatio Jvm.FP.Core.b32 s num den e = .fin s c (k + e - 23) := by
  have r1 := N.ql
  have r2 := N.qh
  unfold Jvm.FP.Core.roundRatio
  rw [if_neg hn]
  have eq : Jvm.FP.Core.quantum Jvm.FP.Core.b32 num den e = k + e - 23 := by
    unfold Jvm.FP.Core.quantum
    rw [hl]
    show max (-149) (k + e - 23) = _
    omega
  rw [eq]
  unfold Jvm.FP.Core.roundAt Jvm.FP.Core.unitsNum Jvm.FP.Core.unitsDen
  rw [show e - (k + e - 23) = 23 - k by omega, show k + e - 23 - e = k - 23 by omega]
  have dp : 0 < den * 2 ^ (k - 23).toNat := Nat.mul_pos d0 (Nat.two_pow_pos _)
  rw [ex, near_eq dp]
  show (if c < 16777216 then (if k + e - 23 ≤ 104 then _ else _) else _) = _
  rw [if_pos N.hi, if_pos (by omega)]
theorem log_23 {c : Nat} (l : 8388608 ≤ c) (h : c < 16777216) : c.log2 = 23 := (Nat.log2_eq_iff (by omega)).mpr ⟨l, h⟩
theorem log_46 {c : Nat} (l : 8388608 ≤ c) (h : c < 16777216) : (c * 8388608).log2 = 46 := (Nat.log2_eq_iff (by omega)).mpr ⟨by omega, by omega⟩
theorem lead_one {n : Nat} (n0 : n ≠ 0) : Jvm.FP.Core.leading n 1 = n.log2 := by
  have l1 : Nat.log2 1 = 0 := by decide
  unfold Jvm.FP.Core.leading
  rw [l1]
  have h := Nat.log2_self_le n0
  show (if 1 * 2 ^ ((n.log2 : Int) - 0).toNat ≤ n * 2 ^ (-((n.log2 : Int) - 0)).toNat then (n.log2 : Int) - 0 else (n.log2 : Int) - 0 - 1) = _
  rw [show ((n.log2 : Int) - 0).toNat = n.log2 by omega, show (-((n.log2 : Int) - 0)).toNat = 0 by omega, if_pos (by omega)]
  omega
theorem lead_two {c d : Nat} (l : 8388608 ≤ c) (h : c < 16777216) (l' : 8388608 ≤ d) (h' : d < 16777216) : Jvm.FP.Core.leading c d = if d ≤ c then 0 else -1 := by
  unfold Jvm.FP.Core.leading
  rw [log_23 l h, log_23 l' h']
  show (if d * 1 ≤ c * 1 then (0 : Int) else -1) = _
  by_cases z : d ≤ c
  · rw [if_pos z, if_pos (by omega)]
  · rw [if_neg z, if_neg (by omega)]
/-! the operations -/
theorem fc2 : Jvm.FP.Core.decode Jvm.FP.Core.b32 (FP.fconst2).toNat = .fin false 8388608 (-22) := by decide
theorem fc1 : Jvm.FP.Core.decode Jvm.FP.Core.b32 (FP.fconst1).toNat = .fin false 8388608 (-23) := by decide
theorem fc0 : Jvm.FP.Core.decode Jvm.FP.Core.b32 (FP.fconst0).toNat = .fin false 0 (-149) := by decide
theorem fc23 : Jvm.FP.Core.decode Jvm.FP.Core.b32 (1258291200 : UInt32).toNat = .fin false 8388608 0 := by decide
theorem ff_div2 (s : Bool) {c : Nat} {q : Int} (N : NF c q) (h : -148 ≤ q) : FP.fdiv (FF s c q) FP.fconst2 = FF s c (q - 1) := by
  show UInt32.ofNat (Jvm.FP.Core.encode Jvm.FP.Core.b32 (Jvm.FP.Core.quotient Jvm.FP.Core.b32 (Jvm.FP.Core.decode Jvm.FP.Core.b32 (FF s c q).toNat) (Jvm.FP.Core.decode Jvm.FP.Core.b32 (FP.fconst2).toNat))) = _
  rw [ff_dec s N, fc2]
  have e := rr_eq (s != false) (num := c) (den := 8388608) (c := c) (e := q - -22) (k := 0) (by have := N.lo; omega) (by decide) (by rw [lead_two N.lo N.hi (by decide) (by decide), if_pos N.lo]) (by rfl) ⟨N.lo, N.hi, by omega, by have := N.qh; omega⟩
  rw [show 0 + (q - -22) - 23 = q - 1 by omega] at e
  show UInt32.ofNat (Jvm.FP.Core.encode Jvm.FP.Core.b32 (Jvm.FP.Core.roundRatio Jvm.FP.Core.b32 (s != false) c 8388608 (q - -22))) = _
  rw [e, Bool.bne_false]
  rfl
theorem ff_mulp (s : Bool) {c : Nat} {q r : Int} {b : UInt32} (N : NF c q) (hb : Jvm.FP.Core.decode Jvm.FP.Core.b32 b.toNat = .fin false 8388608 r) (h : -23 ≤ r) (h' : q + r + 23 ≤ 104) : FP.fmul (FF s c q) b = FF s c (q + r + 23) := by
  show UInt32.ofNat (Jvm.FP.Core.encode Jvm.FP.Core.b32 (Jvm.FP.Core.round Jvm.FP.Core.b32 (Jvm.FP.Core.exactProduct (Jvm.FP.Core.decode Jvm.FP.Core.b32 (FF s c q).toNat) (Jvm.FP.Core.decode Jvm.FP.Core.b32 b.toNat)))) = _
  rw [ff_dec s N, hb]
  have l := N.lo
  have e := rr_eq (s != false) (num := c * 8388608) (den := 1) (c := c) (e := q + r) (k := 46) (by omega) (by decide) (by rw [lead_one (by omega), log_46 N.lo N.hi]; rfl) (by show c * 8388608 * 1 = c * 8388608; omega) ⟨N.lo, N.hi, by have := N.ql; omega, by omega⟩
  rw [show 46 + (q + r) - 23 = q + r + 23 by omega] at e
  show UInt32.ofNat (Jvm.FP.Core.encode Jvm.FP.Core.b32 (Jvm.FP.Core.roundRatio Jvm.FP.Core.b32 (s != false) (c * 8388608) 1 (q + r))) = _
  rw [e, Bool.bne_false]
  rfl
theorem ff_quo {s t : Bool} {c d : Nat} {q r : Int} (N : NF c q) (M : NF d r) (b1 : -100 ≤ q - r) (b2 : q - r ≤ 100) : ∃ c' q', FP.fdiv (FF s c q) (FF t d r) = FF (s != t) c' q' ∧ NF c' q' := by
  have l1 := N.lo; have l2 := N.hi; have l3 := M.lo; have l4 := M.hi
  have ed : FP.fdiv (FF s c q) (FF t d r) = UInt32.ofNat (Jvm.FP.Core.encode Jvm.FP.Core.b32 (Jvm.FP.Core.roundRatio Jvm.FP.Core.b32 (s != t) c d (q - r))) := by
    show UInt32.ofNat (Jvm.FP.Core.encode Jvm.FP.Core.b32 (Jvm.FP.Core.quotient Jvm.FP.Core.b32 (Jvm.FP.Core.decode Jvm.FP.Core.b32 (FF s c q).toNat) (Jvm.FP.Core.decode Jvm.FP.Core.b32 (FF t d r).toNat))) = _
    rw [ff_dec s N, ff_dec t M]
    show UInt32.ofNat (Jvm.FP.Core.encode Jvm.FP.Core.b32 (if d = 0 then _ else _)) = _
    rw [if_neg (by omega)]
  rw [ed]
  by_cases h : d ≤ c
  · obtain ⟨c', q', E, N', -, -⟩ := rr_gen (s != t) (num := c) (den := d) (e := q - r) (k := 0) (by omega) (by omega) (by rw [lead_two l1 l2 l3 l4, if_pos h]) (by show 8388608 * (d * 1) ≤ c * 8388608; omega) (by show c * 8388608 ≤ 16777216 * (d * 1); omega) (by omega) (by omega)
    exact ⟨c', q', by rw [E]; rfl, N'⟩
  · obtain ⟨c', q', E, N', -, -⟩ := rr_gen (s != t) (num := c) (den := d) (e := q - r) (k := -1) (by omega) (by omega) (by rw [lead_two l1 l2 l3 l4, if_neg h]) (by show 8388608 * (d * 1) ≤ c * 16777216; omega) (by show c * 16777216 ≤ 16777216 * (d * 1); omega) (by omega) (by omega)
    exact ⟨c', q', by rw [E]; rfl, N'⟩
theorem ff_l2f {n : Int} (b : Q n) (n0 : n ≠ 0) : ∃ c q, FP.l2f (i64 n) = FF (decide (n < 0)) c q ∧ NF c q ∧ -23 ≤ q ∧ q ≤ 41 := by
  have hb := b.1
  have hb' := b.2
  have B : B64 n := ⟨by omega, by omega⟩
  have ed : FP.l2f (i64 n) = UInt32.ofNat (Jvm.FP.Core.encode Jvm.FP.Core.b32 (Jvm.FP.Core.roundRatio Jvm.FP.Core.b32 (decide (n < 0)) n.natAbs 1 0)) := by
    show UInt32.ofNat (Jvm.FP.Core.encode Jvm.FP.Core.b32 (Jvm.FP.Core.round Jvm.FP.Core.b32 (Jvm.FP.Core.ofInt (i64 n).toInt))) = _
    rw [i64_toInt B]
    rfl
  rw [ed]
  have a0 : n.natAbs ≠ 0 := by omega
  have g1 := Nat.log2_self_le a0
  have g2 : n.natAbs < 2 ^ (n.natAbs.log2 + 1) := Nat.lt_log2_self
  have g3 : n.natAbs.log2 < 63 := (Nat.log2_lt a0).mpr (by omega)
  obtain ⟨k, hk⟩ : ∃ k, k = n.natAbs.log2 := ⟨_, rfl⟩
  have hl := lead_one a0
  rw [← hk] at g1 g2 g3 hl
  have lo : 8388608 * (1 * 2 ^ ((k : Int) - 23).toNat) ≤ n.natAbs * 2 ^ (23 - (k : Int)).toNat := by
    by_cases h : 23 ≤ k
    · rw [show (23 - (k : Int)).toNat = 0 by omega, Nat.one_mul, Nat.pow_zero, Nat.mul_one, show (8388608 : Nat) = 2 ^ 23 from rfl, ← Nat.pow_add, show 23 + ((k : Int) - 23).toNat = k by omega]
      exact g1
    · rw [show ((k : Int) - 23).toNat = 0 by omega, Nat.pow_zero, Nat.mul_one]
      have := Nat.mul_le_mul_right (2 ^ (23 - (k : Int)).toNat) g1
      rw [← Nat.pow_add, show k + (23 - (k : Int)).toNat = 23 by omega] at this
      exact this
  have hi : n.natAbs * 2 ^ (23 - (k : Int)).toNat ≤ 16777216 * (1 * 2 ^ ((k : Int) - 23).toNat) := by
    by_cases h : 23 ≤ k
    · rw [show (23 - (k : Int)).toNat = 0 by omega, Nat.one_mul, Nat.pow_zero, Nat.mul_one, show (16777216 : Nat) = 2 ^ 24 from rfl, ← Nat.pow_add, show 24 + ((k : Int) - 23).toNat = k + 1 by omega]
      omega
    · rw [show ((k : Int) - 23).toNat = 0 by omega, Nat.pow_zero, Nat.mul_one]
      have := Nat.mul_le_mul_right (2 ^ (23 - (k : Int)).toNat) (Nat.le_of_lt g2)
      rw [← Nat.pow_add, show k + 1 + (23 - (k : Int)).toNat = 24 by omega] at this
      exact this
  obtain ⟨c, q, E, N, q1, q2⟩ := rr_gen (decide (n < 0)) (e := 0) a0 (by decide : 0 < 1) hl lo hi (by omega) (by omega)
  exact ⟨c, q, by rw [E]; rfl, N, by omega, by omega⟩
theorem ff_zero {c : Nat} {q : Int} (t : Bool) (N : NF c q) (ht : t = false) : FP.fdiv (FP.l2f (i64 0)) (FF t c q) = 0 := by
  subst ht
  have e0 : Jvm.FP.Core.decode Jvm.FP.Core.b32 (FP.l2f (i64 0)).toNat = .fin false 0 (-149) := by decide
  show UInt32.ofNat (Jvm.FP.Core.encode Jvm.FP.Core.b32 (Jvm.FP.Core.quotient Jvm.FP.Core.b32 (Jvm.FP.Core.decode Jvm.FP.Core.b32 (FP.l2f (i64 0)).toNat) (Jvm.FP.Core.decode Jvm.FP.Core.b32 (FF false c q).toNat))) = _
  rw [ff_dec false N, e0]
  show UInt32.ofNat (Jvm.FP.Core.encode Jvm.FP.Core.b32 (if c = 0 then _ else _)) = _
  rw [if_neg (by have := N.lo; omega)]
  rfl
/-! comparisons -/
theorem ff_cmp (s : Bool) {c d : Nat} {q r : Int} {t : Bool} {b : UInt32} (N : NF c q) (hb : Jvm.FP.Core.decode Jvm.FP.Core.b32 b.toNat = .fin t d r) : FP.fcmp (FF s c q) b = some (compare (Jvm.FP.Core.signed s (Jvm.FP.Core.inUnits c q (min q r))) (Jvm.FP.Core.signed t (Jvm.FP.Core.inUnits d r (min q r)))) := by
  show Jvm.FP.Core.order (Jvm.FP.Core.decode Jvm.FP.Core.b32 (FF s c q).toNat) (Jvm.FP.Core.decode Jvm.FP.Core.b32 b.toNat) = _
  rw [ff_dec s N, hb]
  rfl
theorem ff_lt {c : Nat} {q r : Int} {b : UInt32} (N : NF c q) (hb : Jvm.FP.Core.decode Jvm.FP.Core.b32 b.toNat = .fin false 8388608 r) (h : q < r) : FP.fcmp (FF false c q) b = some .lt := by
  rw [ff_cmp false N hb, Int.min_eq_left (by omega)]
  have e : compare (Jvm.FP.Core.signed false (Jvm.FP.Core.inUnits c q q)) (Jvm.FP.Core.signed false (Jvm.FP.Core.inUnits 8388608 r q)) = .lt := by
    rw [Int.compare_eq_lt]
    show ((c * 2 ^ (q - q).toNat : Nat) : Int) < ((8388608 * 2 ^ (r - q).toNat : Nat) : Int)
    have h1 : 2 ^ 1 ≤ 2 ^ (r - q).toNat := Nat.pow_le_pow_right (by decide) (by omega)
    rw [show (q - q).toNat = 0 by omega]
    have := N.hi
    omega
  rw [e]
theorem ff_nlt {c : Nat} {q r : Int} {b : UInt32} (N : NF c q) (hb : Jvm.FP.Core.decode Jvm.FP.Core.b32 b.toNat = .fin false 8388608 r) (h : r ≤ q) : FP.fcmp (FF false c q) b = some .eq ∨ FP.fcmp (FF false c q) b = some .gt := by
  rw [ff_cmp false N hb, Int.min_eq_right (by omega)]
  have h1 : 1 ≤ 2 ^ (q - r).toNat := Nat.one_le_two_pow
  have h2 : 8388608 * 1 ≤ c * 2 ^ (q - r).toNat := Nat.mul_le_mul N.lo h1
  have h3 : ¬ compare (Jvm.FP.Core.signed false (Jvm.FP.Core.inUnits c q r)) (Jvm.FP.Core.signed false (Jvm.FP.Core.inUnits 8388608 r r)) = .lt := by
    rw [Int.compare_eq_lt]
    show ¬ ((c * 2 ^ (q - r).toNat : Nat) : Int) < ((8388608 * 2 ^ (r - r).toNat : Nat) : Int)
    rw [show (r - r).toNat = 0 by omega]
    omega
  rcases hc : compare (Jvm.FP.Core.signed false (Jvm.FP.Core.inUnits c q r)) (Jvm.FP.Core.signed false (Jvm.FP.Core.inUnits 8388608 r r)) with _ | _ | _
  · exact absurd hc h3
  · exact Or.inl rfl
  · exact Or.inr rfl
theorem ff_c0 (s : Bool) {c : Nat} {q : Int} (N : NF c q) : FP.fcmp (FF s c q) FP.fconst0 = some (if s then .lt else .gt) := by
  rw [ff_cmp s N fc0, Int.min_eq_right N.ql]
  have h1 : 1 ≤ 2 ^ (q - -149).toNat := Nat.one_le_two_pow
  have h2 : 8388608 * 1 ≤ c * 2 ^ (q - -149).toNat := Nat.mul_le_mul N.lo h1
  cases s
  · have e : compare (Jvm.FP.Core.signed false (Jvm.FP.Core.inUnits c q (-149))) (Jvm.FP.Core.signed false (Jvm.FP.Core.inUnits 0 (-149) (-149))) = .gt := by
      rw [Int.compare_eq_gt]
      show (0 : Int) < ((c * 2 ^ (q - -149).toNat : Nat) : Int)
      omega
    rw [e]; rfl
  · have e : compare (Jvm.FP.Core.signed true (Jvm.FP.Core.inUnits c q (-149))) (Jvm.FP.Core.signed false (Jvm.FP.Core.inUnits 0 (-149) (-149))) = .lt := by
      rw [Int.compare_eq_lt]
      show -((c * 2 ^ (q - -149).toNat : Nat) : Int) < 0
      omega
    rw [e]; rfl
theorem ff_self (s : Bool) {c : Nat} {q : Int} (N : NF c q) : FP.fcmp (FF s c q) (FF s c q) = some .eq := by
  rw [ff_cmp s N (ff_dec s N)]
  rw [show compare (Jvm.FP.Core.signed s (Jvm.FP.Core.inUnits c q (min q q))) (Jvm.FP.Core.signed s (Jvm.FP.Core.inUnits c q (min q q))) = .eq from Int.compare_eq_eq.mpr rfl]
