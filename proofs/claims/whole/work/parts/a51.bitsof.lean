/-! bitsOf -/
theorem xor_top {m : Nat} (h : m < 2147483648) : m ^^^ 2147483648 = 2147483648 + m := by
  apply Nat.eq_of_testBit_eq
  intro j
  rw [Nat.testBit_xor, show (2147483648 : Nat) = 2 ^ 31 from rfl, Nat.testBit_two_pow]
  rcases Nat.lt_trichotomy j 31 with z | z | z
  · rw [Nat.testBit_two_pow_add_gt z, decide_eq_false (by omega), Bool.xor_false]
  · subst z
    rw [Nat.testBit_two_pow_add_eq, decide_eq_true rfl, Bool.xor_true]
  · have l1 : m < 2 ^ j := Nat.lt_of_lt_of_le h (by rw [show (2147483648 : Nat) = 2 ^ 31 from rfl]; exact Nat.pow_le_pow_right (by decide) (by omega))
    have l2 : 2 ^ 31 + m < 2 ^ j := Nat.lt_of_lt_of_le (show 2 ^ 31 + m < 2 ^ 32 by omega) (Nat.pow_le_pow_right (by decide) (by omega))
    rw [Nat.testBit_lt_two_pow l1, Nat.testBit_lt_two_pow l2, decide_eq_false (by omega), Bool.xor_false]
theorem ff_neg {c : Nat} {q : Int} (N : NF c q) : FP.fneg (FF true c q) = FF false c q := by
  have e : FF false c q ^^^ 0x80000000 = FF true c q := by
    apply UInt32.toNat_inj.mp
    rw [UInt32.toNat_xor, ff_nat false N, ff_nat true N]
    have := N.hi; have := N.qh; have := N.ql
    show ((0 * 256 + ((q + 149).toNat + 1)) * 8388608 + (c - 8388608)) ^^^ 2147483648 = (1 * 256 + ((q + 149).toNat + 1)) * 8388608 + (c - 8388608)
    rw [xor_top (by omega)]
    omega
  unfold FP.fneg
  rw [← e, UInt32.xor_assoc, UInt32.xor_self, UInt32.xor_zero]
theorem ff_f2i {c : Nat} (N : NF c 0) : FP.f2i (FF false c 0) = i32 c := by
  show Jvm.FP.Core.toI (Jvm.FP.Core.decode Jvm.FP.Core.b32 (FF false c 0).toNat) = _
  rw [ff_dec false N]
  show Int32.ofInt (max (-2147483648) (min 2147483647 (((c * 2 ^ 0 / 2 ^ 0 : Nat)) : Int))) = _
  have := N.hi
  rw [show max (-2147483648) (min 2147483647 (((c * 2 ^ 0 / 2 ^ 0 : Nat)) : Int)) = (c : Int) by omega]
theorem tbv {z : Int} (h : 0 ≤ z) (h' : z < 4294967296) : (i32 z).toBitVec.toNat = z.toNat := by
  show (BitVec.ofInt 32 z).toNat = _
  rw [BitVec.toNat_ofInt]
  show (z % 4294967296).toNat = _
  rw [Int.emod_eq_of_lt h h']
theorem ff_bits (s : Bool) {c : Nat} {q : Int} (N : NF c q) : ((if s then (-2147483648 : Int32) else 0) ||| (i32 (q + 150) <<< ((23 : Int32) &&& 31))) ||| i32 ((c : Int) - 8388608) = (FF s c q).toInt32 := by
  have h1 := N.lo; have h2 := N.hi; have h3 := N.ql; have h4 := N.qh
  apply Int32.toBitVec_inj.mp
  rw [Int32.toBitVec_or, Int32.toBitVec_or, Int32.toBitVec_shiftLeft]
  apply BitVec.eq_of_toNat_eq
  rw [BitVec.toNat_or, BitVec.toNat_or, tbv (by omega) (by omega)]
  have sh : (((i32 (q + 150)).toBitVec) <<< (((23 : Int32) &&& 31).toBitVec.smod 32)).toNat = 2 ^ 23 * (q + 150).toNat := by
    have e1 : ((23 : Int32) &&& 31).toBitVec.smod 32 = 23#32 := by decide
    rw [e1, BitVec.shiftLeft_eq', BitVec.toNat_shiftLeft, tbv (by omega) (by omega), Nat.shiftLeft_eq]
    show (q + 150).toNat * 8388608 % 4294967296 = 8388608 * (q + 150).toNat
    rw [Nat.mod_eq_of_lt (by omega), Nat.mul_comm]
  rw [sh]
  have a : (if s then (-2147483648 : Int32) else 0).toBitVec.toNat = 2 ^ 31 * s.toNat := by cases s <;> rfl
  rw [a, ← Nat.two_pow_add_eq_or_of_lt (show 2 ^ 23 * (q + 150).toNat < 2 ^ 31 by omega), show 2 ^ 31 * s.toNat + 2 ^ 23 * (q + 150).toNat = 2 ^ 23 * (256 * s.toNat + (q + 150).toNat) by omega, ← Nat.two_pow_add_eq_or_of_lt (show ((c : Int) - 8388608).toNat < 2 ^ 23 by omega)]
  show _ = (FF s c q).toNat
  rw [ff_nat s N]
  have : s.toNat ≤ 1 := by cases s <;> decide
  omega
theorem ff_b95 (s : Bool) {c : Nat} {q : Int} (N : NF c q) (h : xH) : fX6_bitsOf_b95 (if s then (-2147483648 : Int32) else 0) (FF false c (-23)) (i32 (q + 150)) h = some ((FF s c q).toInt32, h) := by
  have M : NF c (-23) := ⟨N.lo, N.hi, by decide, by decide⟩
  have M0 : NF c 0 := ⟨N.lo, N.hi, by decide, by decide⟩
  unfold fX6_bitsOf_b95
  have e := ff_mulp false M fc23 (by decide) (by decide)
  have e' : FP.fmul (FF false c (-23)) (1258291200 : UInt32) = FF false c 0 := e
  rw [e', if_pos (ff_ok false M0), lt_def, ff_f2i M0, show (8388608 : Int32) = i32 8388608 from rfl, i32_sub, ff_bits s N]
theorem cv_lt (o : CmpOp) : Op.cmpValue (some .lt) o < 0 := by cases o <;> decide
theorem cv_nlt {r : Option Ordering} (o : CmpOp) (h : r = some .eq ∨ r = some .gt) : ¬ Op.cmpValue r o < 0 ∧ 0 ≤ Op.cmpValue r o := by
  rcases h with h | h <;> subst h <;> cases o <;> decide
theorem cv_nle (o : CmpOp) : ¬ 0 ≤ Op.cmpValue (some .lt) o := by cases o <;> decide
theorem ff_l69 (s : Bool) {c : Nat} {q : Int} (N : NF c q) (h : xH) : ∀ (n k : Nat) (p j : Int), (-23 - p).toNat = n → p ≤ -23 → n < k → 0 ≤ j → j - p ≤ 149 → fX6_bitsOf_l69 k (if s then (-2147483648 : Int32) else 0) (FF false c p) (i32 (q + 150 + (-23 - p))) (i32 j) h = some ((FF s c q).toInt32, h) := by
  intro n
  induction n with
  | zero =>
    intro k p j e0 hp hk hj hjp
    obtain ⟨k, rfl⟩ : ∃ k', k = k' + 1 := ⟨k - 1, by omega⟩
    have : p = -23 := by omega
    subst this
    show fX6_bitsOf_b69 _ _ _ _ _ _ = _
    unfold fX6_bitsOf_b69
    have M : NF c (-23) := ⟨N.lo, N.hi, by decide, by decide⟩
    rw [if_pos (cv_nlt .g (ff_nlt M fc1 (by decide))).2, show q + 150 + (-23 - -23) = q + 150 by omega, ff_b95 s N h]
    split <;> rfl
  | succ n ih =>
    intro k p j e0 hp hk hj hjp
    obtain ⟨k, rfl⟩ : ∃ k', k = k' + 1 := ⟨k - 1, by omega⟩
    show fX6_bitsOf_b69 _ _ _ _ _ _ = _
    unfold fX6_bitsOf_b69
    have M : NF c p := ⟨N.lo, N.hi, by omega, by omega⟩
    have M' : NF c (p + 1) := ⟨N.lo, N.hi, by omega, by omega⟩
    have em := ff_mulp false M fc2 (by decide) (by omega)
    rw [show p + -22 + 23 = p + 1 by omega] at em
    rw [ff_lt M fc1 (by omega), em, if_neg (cv_nle .g), if_neg (fun z => by have := (i32_le (a := 126) ⟨by decide, by decide⟩ ⟨by omega, by omega⟩).mp z; omega), if_pos (ff_ok false M'), lt_def, lt_def, lt_def]
    rw [show (-1 : Int32) = i32 (-1) from rfl, show (1 : Int32) = i32 1 from rfl, i32_add, i32_add, show q + 150 + (-23 - p) + -1 = q + 150 + (-23 - (p + 1)) by omega]
    exact ih k (p + 1) (j + 1) (by omega) (by omega) (by omega) (by omega) (by omega)
theorem ff_b66 (s : Bool) {c : Nat} {q : Int} (N : NF c q) (h : xH) {p : Int} (h0 : -149 ≤ p) (hp : p ≤ -23) : fX6_bitsOf_b66 (if s then (-2147483648 : Int32) else 0) (FF false c p) (i32 (q + 150 + (-23 - p))) h = some ((FF s c q).toInt32, h) := by
  unfold fX6_bitsOf_b66
  rw [lt_def]
  exact ff_l69 s N h (-23 - p).toNat FU p 0 rfl hp (by rw [FU_eq]; omega) (by decide) (by omega)
theorem ff_l40 (s : Bool) {c : Nat} {q : Int} (N : NF c q) (h : xH) : ∀ (n k : Nat) (p j : Int), (p + 23).toNat = n → -149 ≤ p → n < k → 0 ≤ j → j + p ≤ 104 → fX6_bitsOf_l40 k (if s then (-2147483648 : Int32) else 0) (FF false c p) (i32 (q + 150 + (-23 - p))) (i32 j) h = some ((FF s c q).toInt32, h) := by
  intro n
  induction n with
  | zero =>
    intro k p j e0 hp hk hj hjp
    obtain ⟨k, rfl⟩ : ∃ k', k = k' + 1 := ⟨k - 1, by omega⟩
    show fX6_bitsOf_b40 _ _ _ _ _ _ = _
    unfold fX6_bitsOf_b40
    have M : NF c p := ⟨N.lo, N.hi, by omega, by omega⟩
    rw [ff_lt M fc2 (by omega), if_pos (cv_lt .l), ff_b66 s N h hp (by omega)]
    split <;> rfl
  | succ n ih =>
    intro k p j e0 hp hk hj hjp
    obtain ⟨k, rfl⟩ : ∃ k', k = k' + 1 := ⟨k - 1, by omega⟩
    show fX6_bitsOf_b40 _ _ _ _ _ _ = _
    unfold fX6_bitsOf_b40
    have M : NF c p := ⟨N.lo, N.hi, by omega, by omega⟩
    have M' : NF c (p - 1) := ⟨N.lo, N.hi, by omega, by omega⟩
    rw [if_neg (cv_nlt .l (ff_nlt M fc2 (by omega))).1, ff_div2 false M (by omega), if_neg (fun z => by have := (i32_le (a := 127) ⟨by decide, by decide⟩ ⟨by omega, by omega⟩).mp z; omega), if_pos (ff_ok false M'), lt_def, lt_def, lt_def]
    rw [show (1 : Int32) = i32 1 from rfl, i32_add, i32_add, show q + 150 + (-23 - p) + 1 = q + 150 + (-23 - (p - 1)) by omega]
    exact ih k (p - 1) (j + 1) (by omega) (by omega) (by omega) (by omega) (by omega)
theorem ff_b33 (s : Bool) {c : Nat} {q : Int} (N : NF c q) (h : xH) : fX6_bitsOf_b33 (FF false c q) (if s then (-2147483648 : Int32) else 0) h = some ((FF s c q).toInt32, h) := by
  unfold fX6_bitsOf_b33
  rw [lt_def, lt_def]
  have e := ff_l40 s N h (q + 23).toNat FU q 0 rfl N.ql (by rw [FU_eq]; have := N.qh; omega) (by decide) (by have := N.qh; omega)
  rw [show q + 150 + (-23 - q) = 127 by omega] at e
  exact e
theorem c_bitsOf (s : Bool) {c : Nat} {q : Int} (N : NF c q) (h : xH) : fX6_bitsOf (FF s c q) h = some ((FF s c q).toInt32, h) := by
  have e0 := ff_c0 s N
  unfold fX6_bitsOf fX6_bitsOf_b20
  rw [e0]
  cases s
  · have e := ff_b33 false N h
    exact e
  · have e := ff_b33 true N h
    rw [ff_neg N]
    exact e
theorem m_bitsOf (s : Bool) {c : Nat} {q : Int} (N : NF c q) (h : xH) : fJxf58ca_floatToIntBits_5c35a (FF s c q) h = some ((FF s c q).toInt32, h) := by
  unfold fJxf58ca_floatToIntBits_5c35a fJxf58ca_isNaN_12338
  rw [ff_self s N]
  rfl
/-- What both sides answer for n / d. -/
theorem bits_both {n d : Int} (hn : Q n) (hd : Q d) (d0 : 0 < d) (h h' : xH) : ∃ a : Int32, (FP.fdiv (FP.l2f (i64 n)) (FP.l2f (i64 d)) &&& 0x7fffffff ≤ 0x7f800000) ∧ fX6_bitsOf (FP.fdiv (FP.l2f (i64 n)) (FP.l2f (i64 d))) h = some (a, h) ∧ fJxf58ca_floatToIntBits_5c35a (FP.fdiv (FP.l2f (i64 n)) (FP.l2f (i64 d))) h' = some (a, h') := by
  obtain ⟨c2, q2, E2, N2, l2, u2⟩ := ff_l2f hd (by omega)
  by_cases n0 : n = 0
  · subst n0
    rw [E2, ff_zero _ N2 (decide_eq_false (by omega))]
    exact ⟨0, by decide, rfl, rfl⟩
  · obtain ⟨c1, q1, E1, N1, l1, u1⟩ := ff_l2f hn n0
    obtain ⟨c3, q3, E3, N3⟩ := ff_quo (s := decide (n < 0)) (t := decide (d < 0)) N1 N2 (by omega) (by omega)
    rw [E1, E2, E3]
    exact ⟨_, ff_ok _ N3, c_bitsOf _ N3 h, m_bitsOf _ N3 h'⟩
