/-! THE CLASS' STATE; settle, undo -/
abbrev Und : Type := List (Int × Nat × List Kn)
def HsI (h : xH) (lst : Nat → List Kn) (und : Und) (nx : Nat) : Prop := nx < 8 ∧ hI h 10 2 = i32 (nx : Int) ∧ und.length ≤ 8 ∧ hI h 10 0 = i32 (und.length : Int) ∧ ∀ (t : Nat) (u : Int × Nat × List Kn), und[t]? = some u → hI h 11 ((nx + 7 - t) % 8) = i32 u.1 ∧ hI h 12 ((nx + 7 - t) % 8) = i32 (u.2.1 : Int) ∧ u.2.1 < 7 ∧ lst (8 + (nx + 7 - t) % 8) = u.2.2
def ImI (h : xH) (lst : Nat → List Kn) (img : Nat → Option (Nat → List Kn)) : Prop := ∀ k, k < 2 → hI h 63 k = bz (img k).isSome ∧ ∀ f, img k = some f → ∀ i, i < 7 → lst (16 + 7 * k + i) = f i
def ClI (h : xH) (cap : Nat → Nat) (lst : Nat → List Kn) (und : Und) (img : Nat → Option (Nat → List Kn)) : Prop := ShI h cap lst ∧ (∃ nx, HsI h lst und nx) ∧ ImI h lst img
theorem c_min32 {a b : Int} (ha : B32 a) (hb : B32 b) (h : xH) : fJ9_min_7cf53 (i32 a) (i32 b) h = some (i32 (if a ≤ b then a else b), h) := by
  unfold fJ9_min_7cf53
  split
  · rename_i c
    first
    | (have := (i32_le ha hb).mp c; rw [if_pos this])
    | (have := (i32_lt hb ha).mp c; rw [if_neg (by omega)])
    | (have := (i32_lt ha hb).mp c; rw [if_pos (by omega)])
    | (have := (i32_le hb ha).mp c
       by_cases e0 : a = b
       · rw [if_pos (by omega), e0]
       · rw [if_neg (by omega)])
  · rename_i c
    first
    | (have : ¬ a ≤ b := fun z => c ((i32_le ha hb).mpr z)
       rw [if_neg this])
    | (have : ¬ b < a := fun z => c ((i32_lt hb ha).mpr z)
       rw [if_pos (by omega)])
    | (have : ¬ a < b := fun z => c ((i32_lt ha hb).mpr z)
       by_cases e0 : a = b
       · rw [if_pos (by omega), e0]
       · rw [if_neg (by omega)])
    | (have : ¬ b ≤ a := fun z => c ((i32_le hb ha).mpr z)
       rw [if_pos (by omega)])
theorem mod8 {n : Nat} (hn : n < 8) : (i32 (n : Int) + 1) - (i32 (n : Int) + 1) / (8 : Int32) * (8 : Int32) = i32 (((n + 1) % 8 : Nat) : Int) := by
  rcases (show n = 0 ∨ n = 1 ∨ n = 2 ∨ n = 3 ∨ n = 4 ∨ n = 5 ∨ n = 6 ∨ n = 7 by omega) with e | e | e | e | e | e | e | e <;> rw [e] <;> decide
theorem mod8b {n : Nat} (hn : n < 8) : (i32 (n : Int) + (8 : Int32) - (1 : Int32)) - (i32 (n : Int) + (8 : Int32) - (1 : Int32)) / (8 : Int32) * (8 : Int32) = i32 (((n + 7) % 8 : Nat) : Int) := by
  rcases (show n = 0 ∨ n = 1 ∨ n = 2 ∨ n = 3 ∨ n = 4 ∨ n = 5 ∨ n = 6 ∨ n = 7 by omega) with e | e | e | e | e | e | e | e <;> rw [e] <;> decide
/-- what settle and undo leave alone -/
def Kept (h h' : xH) : Prop := h'.1 = h.1 ∧ (∀ r k, FrC r → hI h' r k = hI h r k ∧ hJ h' r k = hJ h r k) ∧ (∀ r k, ¬ (r = 2 ∧ k = 1) → r ≠ 3 → r ≠ 13 → hR h' r k = hR h r k) ∧ ∀ r k, r ≠ 10 → r ≠ 11 → r ≠ 12 → ¬ (r = 2 ∧ k = 6) → hI h' r k = hI h r k ∧ hJ h' r k = hJ h r k
theorem Co.same {h h' : xH} (co : Co h) (h1 : h'.1 = h.1) (hr : ∀ r k, ¬ (r = 2 ∧ k = 1) → r ≠ 3 → r ≠ 13 → hR h' r k = hR h r k) : Co h' := by
  refine ⟨fun r x e0 => ?_, fun r k x e0 => ?_⟩
  · have := co.1 r x e0; unfold xkd at *; rw [h1]; exact this
  · rw [hr r k (fun z => by rw [z.1, z.2] at e0; cases e0) (fun z => by rw [z] at e0; cases e0) (fun z => by rw [z] at e0; cases e0)]
    exact co.2 r k x e0
theorem c_keep {g : xH} (co : Co g) {nx m w : Nat} (n1 : nx < 8) (hm : m ≤ 8) (g2 : hI g 10 2 = i32 (nx : Int)) (g0 : hI g 10 0 = i32 (m : Int)) (kS : kc g w = 4) (a1 a2 : Int32) : fX0_keep 10 a1 a2 w g = some (hR g 13 nx, sI (sI (sR (sI (sI g 11 nx a1) 12 nx a2) 13 nx w) 10 2 (i32 (((nx + 1) % 8 : Nat) : Int))) 10 0 (i32 (if (m : Int) + 1 ≤ 8 then (m : Int) + 1 else 8))) := by
  have xn : ix (i32 (nx : Int)) 8 := ix_i (by omega) (by omega) (by decide)
  have nn : (i32 (nx : Int)).toNatClampNeg = nx := nat_i _ (by omega)
  have q7 : hI (sI g 11 nx a1) 10 2 = i32 (nx : Int) := by rw [hI_sI, if_neg (by omega)]; exact g2
  have q12 : hI (sI (sI g 11 nx a1) 12 nx a2) 10 2 = i32 (nx : Int) := by rw [hI_sI, if_neg (by omega)]; exact q7
  have q18 : hI (sR (sI (sI g 11 nx a1) 12 nx a2) 13 nx w) 10 2 = i32 (nx : Int) := q12
  have q21 : hI (sI (sR (sI (sI g 11 nx a1) 12 nx a2) 13 nx w) 10 2 (i32 (((nx + 1) % 8 : Nat) : Int))) 10 0 = i32 (m : Int) := by
    rw [hI_sI, if_neg (by omega), hI_sR, hI_sI, if_neg (by omega), hI_sI, if_neg (by omega)]; exact g0
  have c7 : Co (sI g 11 nx a1) := co.same rfl (fun r k _ _ _ => rfl)
  have c12 : Co (sI (sI g 11 nx a1) 12 nx a2) := c7.same rfl (fun r k _ _ _ => rfl)
  have k12 : kc (sI (sI g 11 nx a1) 12 nx a2) w = 4 := kS
  unfold fX0_keep
  rw [if_pos co.k10, co.r10_5, if_pos co.k13, g2, co.l13, if_pos xn, lt_def]
  simp only [nn]
  rw [co.r10_3, if_pos co.k11, co.l11, if_pos xn, lt_def, q7, c7.r10_4, if_pos c7.k12, c7.l12, if_pos xn, lt_def]
  simp only [nn]
  rw [if_pos k12, c12.r10_5, if_pos c12.k13, q12, c12.l13, if_pos xn, lt_def]
  simp only [nn]
  rw [if_pos (by decide), lt_def, q18, mod8 n1, q21, one32, i32_add, show (8 : Int32) = i32 8 from rfl, c_min32 ⟨by omega, by omega⟩ ⟨by decide, by decide⟩, bd_some, lt_def]
section ST
variable {h : xH} {cap : Nat → Nat} {lst : Nat → List Kn} {und : Und} {img : Nat → Option (Nat → List Kn)}
/-- three places change round -/
def rot (a b c : Nat) (q : Nat) : Nat := if q = a then b else if q = b then c else if q = c then a else q
theorem rot_inj {a b c p q : Nat} (ab : a ≠ b) (bc : b ≠ c) (ac : a ≠ c) (z : rot a b c p = rot a b c q) : p = q := by
  unfold rot at z
  split at z <;> (try split at z) <;> (try split at z) <;> (try split at z) <;> (try split at z) <;> (try split at z) <;> omega
theorem c_settle {act : Int} {slot : Nat} (I : ClI h cap lst und img) (hs : slot < 7) : ∃ h' nx, nx < 8 ∧ fX6_settle 2 (i32 act) (i32 (slot : Int)) h = some (i32 ((lst 7).length : Int), h') ∧ ClI h' (fun q => cap (rot slot 7 (8 + nx) q)) (fun q => lst (rot slot 7 (8 + nx) q)) ((act, slot, lst slot) :: und.take 7) img ∧ Kept h h' ∧ hI h' 2 6 = 0 := by
  obtain ⟨S, ⟨nx, hn⟩, im⟩ := I
  obtain ⟨n1, n2, n3, n4, n5⟩ := hn
  have co := S.1
  have sl1 : ix (i32 (slot : Int)) 7 := ix_i (by omega) (by omega) (by decide)
  have sn : (i32 (slot : Int)).toNatClampNeg = slot := nat_i _ (by omega)
  have xn : ix (i32 (nx : Int)) 8 := ix_i (by omega) (by omega) (by decide)
  have nn : (i32 (nx : Int)).toNatClampNeg = nx := nat_i _ (by omega)
  have w7 := S.2.1 7 (by decide)
  have wS := S.2.1 slot (by omega)
  have wN := S.2.1 (8 + nx) (by omega)
  have e7 : sh h 7 = hR h 2 1 := rfl
  have eS : sh h slot = hR h 3 slot := by unfold sh; rw [if_pos hs]
  have eN : sh h (8 + nx) = hR h 13 nx := by unfold sh; rw [if_neg (by omega), if_neg (by omega), if_pos (by omega), Nat.add_sub_cancel_left]
  have k7 : kc h (hR h 2 1) = 4 := by rw [← e7]; exact w7.1.1
  have kS : kc h (hR h 3 slot) = 4 := by rw [← eS]; exact wS.1.1
  have kN : kc h (hR h 13 nx) = 4 := by rw [← eN]; exact wN.1.1
  have fr7 : FrC (hR h 2 1) := by rw [← e7]; exact S.2.2.2.1 7 (by decide) _ 0 (Or.inl rfl)
  have hx : ∃ h', h' = sI (sR (sI (sI (sR (sI (sI (sR h 3 slot (hR h 2 1)) 11 nx (i32 act)) 12 nx (i32 (slot : Int))) 13 nx (hR h 3 slot)) 10 2 (i32 (((nx + 1) % 8 : Nat) : Int))) 10 0 (i32 (if (und.length : Int) + 1 ≤ 8 then (und.length : Int) + 1 else 8))) 2 1 (hR h 13 nx)) 2 6 0 := ⟨_, rfl⟩
  obtain ⟨h', eh⟩ := hx
  have rI : ∀ r k, hI h' r k = (if r = 2 ∧ k = 6 then 0 else if r = 10 ∧ k = 0 then i32 (if (und.length : Int) + 1 ≤ 8 then (und.length : Int) + 1 else 8) else if r = 10 ∧ k = 2 then i32 (((nx + 1) % 8 : Nat) : Int) else if r = 12 ∧ k = nx then i32 (slot : Int) else if r = 11 ∧ k = nx then i32 act else hI h r k) := by
    intro r k
    rw [eh]
    simp only [hI_sI, hI_sR]
  have rJ : ∀ r k, hJ h' r k = hJ h r k := fun r k => by rw [eh]; simp only [hJ_sI, hJ_sR]
  have rR : ∀ r k, hR h' r k = (if r = 2 ∧ k = 1 then hR h 13 nx else if r = 13 ∧ k = nx then hR h 3 slot else if r = 3 ∧ k = slot then hR h 2 1 else hR h r k) := by
    intro r k
    rw [eh]
    simp only [hR_sI, hR_sR]
  have kept : Kept h h' := by
    refine ⟨by rw [eh]; rfl, fun r k fr => ⟨?_, rJ r k⟩, fun r k a b c => ?_, fun r k a b c d => ⟨?_, rJ r k⟩⟩
    · have c2 := fr.2.1
      rw [rI, if_neg (fun z => by rw [z.1] at c2; cases c2), if_neg (fun z => by rw [z.1] at c2; cases c2), if_neg (fun z => by rw [z.1] at c2; cases c2), if_neg (fun z => by rw [z.1] at c2; cases c2), if_neg (fun z => by rw [z.1] at c2; cases c2)]
    · rw [rR, if_neg a, if_neg (fun z => c z.1), if_neg (fun z => b z.1)]
    · rw [rI, if_neg d, if_neg (fun z => a z.1), if_neg (fun z => a z.1), if_neg (fun z => c z.1), if_neg (fun z => b z.1)]
  have hsh : ∀ q, q < 30 → sh h' q = sh h (rot slot 7 (8 + nx) q) := by
    intro q hq
    unfold rot
    by_cases c1 : q = slot
    · rw [if_pos c1]
      unfold sh
      rw [if_pos (by omega), rR, if_neg (by omega), if_neg (by omega), if_pos ⟨rfl, c1⟩]
      rfl
    · rw [if_neg c1]
      by_cases c2 : q = 7
      · rw [if_pos c2, eN, c2]
        unfold sh
        rw [if_neg (by omega), if_pos rfl, rR, if_pos ⟨rfl, rfl⟩]
      · rw [if_neg c2]
        by_cases c3 : q = 8 + nx
        · rw [if_pos c3, eS, c3]
          unfold sh
          rw [if_neg (by omega), if_neg (by omega), if_pos (by omega), Nat.add_sub_cancel_left, rR, if_neg (by omega), if_pos ⟨rfl, rfl⟩]
        · rw [if_neg c3]
          unfold sh
          by_cases d1 : q < 7
          · rw [if_pos d1, if_pos d1, rR, if_neg (by omega), if_neg (by omega), if_neg (fun z => c1 z.2)]
          · rw [if_neg d1, if_neg d1, if_neg c2, if_neg c2]
            by_cases d2 : q < 16
            · rw [if_pos d2, if_pos d2, rR, if_neg (by omega), if_neg (by omega), if_neg (by omega)]
            · rw [if_neg d2, if_neg d2, rR, if_neg (by omega), if_neg (by omega), if_neg (by omega)]
  have S' : ShI h' (fun q => cap (rot slot 7 (8 + nx) q)) (fun q => lst (rot slot 7 (8 + nx) q)) := S.perm kept.1 kept.2.1 kept.2.2.1 (fun q hq => by unfold rot; split; omega; split; omega; split; omega; omega) (fun p q hp hq z => rot_inj (by omega) (by omega) (by omega) z) hsh
  have im' : ImI h' (fun q => lst (rot slot 7 (8 + nx) q)) img := by
    intro k hk
    obtain ⟨m1, m2⟩ := im k hk
    refine ⟨by rw [(kept.2.2.2 63 k (by decide) (by decide) (by decide) (by omega)).1]; exact m1, fun f ef i hi => ?_⟩
    show lst (rot slot 7 (8 + nx) (16 + 7 * k + i)) = f i
    rw [show rot slot 7 (8 + nx) (16 + 7 * k + i) = 16 + 7 * k + i by unfold rot; rw [if_neg (by omega), if_neg (by omega), if_neg (by omega)]]
    exact m2 f ef i hi
  have lenU : ((und.take 7).length + 1 : Int) = (if (und.length : Int) + 1 ≤ 8 then (und.length : Int) + 1 else 8) := by
    rw [List.length_take]; split <;> omega
  refine ⟨h', nx, n1, ?_, ⟨S', ⟨(nx + 1) % 8, by omega, ?_, ?_, ?_, fun t u e0 => ?_⟩, im'⟩, kept, by rw [rI, if_pos ⟨rfl, rfl⟩]⟩
  · have c6 : Co (sR h 3 slot (hR h 2 1)) := co.same rfl (fun r k _ b _ => by rw [hR_sR, if_neg (fun z => b z.1)])
    have k6 : kc (sR h 3 slot (hR h 2 1)) (hR h 3 slot) = 4 := kS
    have ek := c_keep c6 n1 n3 (show hI (sR h 3 slot (hR h 2 1)) 10 2 = i32 (nx : Int) from n2) n4 k6 (i32 act) (i32 (slot : Int))
    have e13 : hR (sR h 3 slot (hR h 2 1)) 13 nx = hR h 13 nx := by rw [hR_sR, if_neg (by omega)]
    rw [e13] at ek
    have co' : Co h' := co.same kept.1 kept.2.2.1
    have l3' : hR h' 3 slot = hR h 2 1 := by rw [rR, if_neg (by omega), if_neg (by omega), if_pos ⟨rfl, rfl⟩]
    have k3' : kc h' (hR h 2 1) = 4 := by unfold kc xkd; rw [kept.1]; exact k7
    have v3' : hI h' (hR h 2 1) 0 = i32 ((lst 7).length : Int) := by
      rw [(kept.2.1 _ 0 fr7).1, ← e7]; exact w7.2.1.1
    unfold fX6_settle
    rw [if_pos co.k2, co.r2_0, if_pos co.k3, co.l3, if_pos sl1, lt_def, if_pos k7, lt_def]
    simp only [sn]
    rw [c6.r2_2, if_pos c6.k10, ek, bd_some, lt_def, lt_def, ← eh, co'.r2_0, if_pos co'.k3, co'.l3, if_pos sl1]
    rw [l3', if_pos k3', v3']
  · rw [rI, if_neg (by omega), if_neg (by omega), if_pos ⟨rfl, rfl⟩]
  · rw [List.length_cons, List.length_take]; omega
  · rw [rI, if_neg (by omega), if_pos ⟨rfl, rfl⟩, List.length_cons, ← lenU]; rfl
  · cases t with
    | zero =>
      have eu : (act, slot, lst slot) = u := by simpa using e0
      rw [← eu]
      have p0 : ((nx + 1) % 8 + 7 - 0) % 8 = nx := by omega
      rw [p0]
      refine ⟨by rw [rI, if_neg (by omega), if_neg (by omega), if_neg (by omega), if_neg (by omega), if_pos ⟨rfl, rfl⟩], by rw [rI, if_neg (by omega), if_neg (by omega), if_neg (by omega), if_pos ⟨rfl, rfl⟩], hs, ?_⟩
      show lst (rot slot 7 (8 + nx) (8 + nx)) = lst slot
      unfold rot
      rw [if_neg (by omega), if_neg (by omega), if_pos rfl]
    | succ t =>
      have e1 : (und.take 7)[t]? = some u := by simpa using e0
      have ht : t < 7 := by
        have := (List.getElem?_eq_some_iff.mp e1).1
        rw [List.length_take] at this; omega
      have e2 : und[t]? = some u := by rw [List.getElem?_take] at e1; rw [if_pos ht] at e1; exact e1
      have v := n5 t u e2
      have p1 : ((nx + 1) % 8 + 7 - (t + 1)) % 8 = (nx + 7 - t) % 8 := by omega
      have p2 : (nx + 7 - t) % 8 ≠ nx := by omega
      rw [p1]
      refine ⟨by rw [rI, if_neg (by omega), if_neg (by omega), if_neg (by omega), if_neg (by omega), if_neg (by omega)]; exact v.1, by rw [rI, if_neg (by omega), if_neg (by omega), if_neg (by omega), if_neg (by omega), if_neg (by omega)]; exact v.2.1, v.2.2.1, ?_⟩
      show lst (rot slot 7 (8 + nx) (8 + (nx + 7 - t) % 8)) = u.2.2
      rw [show rot slot 7 (8 + nx) (8 + (nx + 7 - t) % 8) = 8 + (nx + 7 - t) % 8 by unfold rot; rw [if_neg (by omega), if_neg (by omega), if_neg (by omega)]]
      exact v.2.2.2
end ST
