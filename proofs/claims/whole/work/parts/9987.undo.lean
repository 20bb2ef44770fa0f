/-! THE CLASS' undo, refuse -/
theorem c_max32 {a b : Int} (ha : B32 a) (hb : B32 b) (h : xH) : fJ9_max_7cf53 (i32 a) (i32 b) h = some (i32 (if a ≤ b then b else a), h) := by
  unfold fJ9_max_7cf53
  split
  · rename_i c
    first
    | (have := (i32_le ha hb).mp c; rw [if_pos this])
    | (have := (i32_lt hb ha).mp c; rw [if_neg (by omega)])
    | (have := (i32_lt ha hb).mp c; rw [if_pos (by omega)])
    | (have := (i32_le hb ha).mp c
       by_cases e0 : a = b
       · rw [if_pos (by omega), e0]
       · rw [if_neg (by omega)])
  · rename_i c
    first
    | (have : ¬ a ≤ b := fun z => c ((i32_le ha hb).mpr z)
       rw [if_neg this])
    | (have : ¬ b < a := fun z => c ((i32_lt hb ha).mpr z)
       rw [if_pos (by omega)])
    | (have : ¬ a < b := fun z => c ((i32_lt ha hb).mpr z)
       by_cases e0 : a = b
       · rw [if_pos (by omega), e0]
       · rw [if_neg (by omega)])
    | (have : ¬ b ≤ a := fun z => c ((i32_le hb ha).mpr z)
       rw [if_pos (by omega)])
def swp (a b : Nat) (q : Nat) : Nat := if q = a then b else if q = b then a else q
theorem swp_inj {a b p q : Nat} (ab : a ≠ b) (z : swp a b p = swp a b q) : p = q := by
  unfold swp at z
  split at z <;> (try split at z) <;> (try split at z) <;> (try split at z) <;> omega
section ST
variable {h : xH} {cap : Nat → Nat} {lst : Nat → List Kn} {und : Und} {img : Nat → Option (Nat → List Kn)}
theorem c_refuse {a : Int} (co : Co h) (ha : -6 ≤ a ∧ a ≤ -1) : fX6_refuse 2 (i32 a) h = some (i32 a, sI (sI h 2 6 (i32 a)) 66 (-a).toNat (hI h 66 (-a).toNat + 1)) := by
  have xn : ix (i32 (-a)) 7 := ix_i (by omega) (by omega) (by decide)
  have nn : (i32 (-a)).toNatClampNeg = (-a).toNat := i32_nat (by omega) (by omega)
  have c2 : Co (sI h 2 6 (i32 a)) := co.same rfl (fun _ _ _ _ _ => rfl)
  unfold fX6_refuse
  rw [if_pos co.k2, lt_def, c2.r2_7, if_pos c2.k66, c2.l66, i32_neg, if_pos xn, lt_def]
  simp only [nn]
  rw [hI_sI, if_neg (by omega)]
/-- what a refusal touches -/
def ARf (r k : Nat) : Prop := (r = 2 ∧ k = 6) ∨ r = 66
theorem ClI.fr {A : Nat → Nat → Prop} {h' : xH} (I : ClI h cap lst und img) (f : Fr A h h') (hA : ∀ r k, FrC r → ¬ A r k) (hA2 : ∀ k, ¬ A 10 k ∧ ¬ A 11 k ∧ ¬ A 12 k ∧ ¬ A 63 k) : ClI h' cap lst und img := by
  obtain ⟨S, ⟨nx, n1, n2, n3, n4, n5⟩, im⟩ := I
  refine ⟨S.fr f hA, ⟨nx, n1, by rw [(f.2.2 10 2 (hA2 2).1).1]; exact n2, n3, by rw [(f.2.2 10 0 (hA2 0).1).1]; exact n4, fun t u e0 => ?_⟩, fun k hk => ?_⟩
  · rw [(f.2.2 11 _ (hA2 _).2.1).1, (f.2.2 12 _ (hA2 _).2.2.1).1]; exact n5 t u e0
  · rw [(f.2.2 63 k (hA2 k).2.2.2).1]; exact im k hk
theorem c_undo {act : Int} {slot : Nat} {old : List Kn} {rest : Und} (I : ClI h cap lst ((act, slot, old) :: rest) img) : ∃ h' at0, at0 < 8 ∧ slot < 7 ∧ lst (8 + at0) = old ∧ fX6_undo 2 h = some (i32 act, h') ∧ ClI h' (fun q => cap (swp slot (8 + at0) q)) (fun q => lst (swp slot (8 + at0) q)) rest img ∧ Kept h h' ∧ hI h' 2 6 = 0 := by
  obtain ⟨S, ⟨nx, hn⟩, im⟩ := I
  obtain ⟨n1, n2, n3, n4, n5⟩ := hn
  have co := S.1
  have v0 := n5 0 (act, slot, old) rfl
  rw [List.length_cons] at n3 n4
  have hat : ∃ at0, at0 = (nx + 7) % 8 := ⟨_, rfl⟩
  obtain ⟨at0, eat⟩ := hat
  rw [show (nx + 7 - 0) % 8 = at0 by omega] at v0
  have a8 : at0 < 8 := by omega
  obtain ⟨v1, v2, hs, v3⟩ := v0
  have v1 : hI h 11 at0 = i32 act := v1
  have v2 : hI h 12 at0 = i32 (slot : Int) := v2
  have hs : slot < 7 := hs
  have v3 : lst (8 + at0) = old := v3
  have sl1 : ix (i32 (slot : Int)) 7 := ix_i (by omega) (by omega) (by decide)
  have sn : (i32 (slot : Int)).toNatClampNeg = slot := nat_i _ (by omega)
  have xn : ix (i32 (at0 : Int)) 8 := ix_i (by omega) (by omega) (by decide)
  have nn : (i32 (at0 : Int)).toNatClampNeg = at0 := nat_i _ (by omega)
  have wS := S.2.1 slot (by omega)
  have wN := S.2.1 (8 + at0) (by omega)
  have eS : sh h slot = hR h 3 slot := by unfold sh; rw [if_pos hs]
  have eN : sh h (8 + at0) = hR h 13 at0 := by unfold sh; rw [if_neg (by omega), if_neg (by omega), if_pos (by omega), Nat.add_sub_cancel_left]
  have kS : kc h (hR h 3 slot) = 4 := by rw [← eS]; exact wS.1.1
  have kN : kc h (hR h 13 at0) = 4 := by rw [← eN]; exact wN.1.1
  have hx : ∃ h', h' = sI (sR (sI (sI (sI (sR h 13 at0 (hR h 3 slot)) 10 1 (i32 act)) 10 2 (i32 (at0 : Int))) 10 0 (i32 (rest.length : Int))) 3 slot (hR h 13 at0)) 2 6 0 := ⟨_, rfl⟩
  obtain ⟨h', eh⟩ := hx
  have rI : ∀ r k, hI h' r k = (if r = 2 ∧ k = 6 then 0 else if r = 10 ∧ k = 0 then i32 (rest.length : Int) else if r = 10 ∧ k = 2 then i32 (at0 : Int) else if r = 10 ∧ k = 1 then i32 act else hI h r k) := by
    intro r k
    rw [eh]
    simp only [hI_sI, hI_sR]
  have rJ : ∀ r k, hJ h' r k = hJ h r k := fun r k => by rw [eh]; simp only [hJ_sI, hJ_sR]
  have rR : ∀ r k, hR h' r k = (if r = 3 ∧ k = slot then hR h 13 at0 else if r = 13 ∧ k = at0 then hR h 3 slot else hR h r k) := by
    intro r k
    rw [eh]
    simp only [hR_sI, hR_sR]
  have kept : Kept h h' := by
    refine ⟨by rw [eh]; rfl, fun r k fr => ⟨?_, rJ r k⟩, fun r k a b c => ?_, fun r k a b c d => ⟨?_, rJ r k⟩⟩
    · have c2 := fr.2.1
      rw [rI, if_neg (fun z => by rw [z.1] at c2; cases c2), if_neg (fun z => by rw [z.1] at c2; cases c2), if_neg (fun z => by rw [z.1] at c2; cases c2), if_neg (fun z => by rw [z.1] at c2; cases c2)]
    · rw [rR, if_neg (fun z => b z.1), if_neg (fun z => c z.1)]
    · rw [rI, if_neg d, if_neg (fun z => a z.1), if_neg (fun z => a z.1), if_neg (fun z => a z.1)]
  have hsh : ∀ q, q < 30 → sh h' q = sh h (swp slot (8 + at0) q) := by
    intro q hq
    unfold swp
    by_cases c1 : q = slot
    · rw [if_pos c1, eN]
      unfold sh
      rw [if_pos (by omega), rR, if_pos ⟨rfl, c1⟩]
    · rw [if_neg c1]
      by_cases c3 : q = 8 + at0
      · rw [if_pos c3, eS, c3]
        unfold sh
        rw [if_neg (by omega), if_neg (by omega), if_pos (by omega), Nat.add_sub_cancel_left, rR, if_neg (by omega), if_pos ⟨rfl, rfl⟩]
      · rw [if_neg c3]
        unfold sh
        by_cases d1 : q < 7
        · rw [if_pos d1, if_pos d1, rR, if_neg (fun z => c1 z.2), if_neg (by omega)]
        · rw [if_neg d1, if_neg d1]
          by_cases d3 : q = 7
          · rw [if_pos d3, if_pos d3, rR, if_neg (by omega), if_neg (by omega)]
          · rw [if_neg d3, if_neg d3]
            by_cases d2 : q < 16
            · rw [if_pos d2, if_pos d2, rR, if_neg (by omega), if_neg (by omega)]
            · rw [if_neg d2, if_neg d2, rR, if_neg (by omega), if_neg (by omega)]
  have S' : ShI h' (fun q => cap (swp slot (8 + at0) q)) (fun q => lst (swp slot (8 + at0) q)) := S.perm kept.1 kept.2.1 kept.2.2.1 (fun q hq => by unfold swp; split; omega; split; omega; omega) (fun p q hp hq z => swp_inj (by omega) z) hsh
  have im' : ImI h' (fun q => lst (swp slot (8 + at0) q)) img := by
    intro k hk
    obtain ⟨m1, m2⟩ := im k hk
    refine ⟨by rw [(kept.2.2.2 63 k (by decide) (by decide) (by decide) (by omega)).1]; exact m1, fun f ef i hi => ?_⟩
    show lst (swp slot (8 + at0) (16 + 7 * k + i)) = f i
    rw [show swp slot (8 + at0) (16 + 7 * k + i) = 16 + 7 * k + i by unfold swp; rw [if_neg (by omega), if_neg (by omega)]]
    exact m2 f ef i hi
  refine ⟨h', at0, a8, hs, v3, ?_, ⟨S', ⟨at0, a8, ?_, by omega, ?_, fun t u e0 => ?_⟩, im'⟩, kept, by rw [rI, if_pos ⟨rfl, rfl⟩]⟩
  · have elat : fX0_latest 10 h = some (i32 (at0 : Int), h) := by
      unfold fX0_latest
      rw [if_pos co.k10, if_pos (by decide), n2, mod8b n1, ← eat]
    have els : fX0_latestSlot 10 h = some (i32 (slot : Int), h) := by
      unfold fX0_latestSlot
      rw [if_pos co.k10, elat, bd_some, co.r10_4, if_pos co.k12, co.l12, if_pos xn]
      simp only [nn]
      rw [v2]
    have c10 : Co (sR h 13 at0 (hR h 3 slot)) := co.same rfl (fun r k _ _ c => by rw [hR_sR, if_neg (fun z => c z.1)])
    have etb : fX0_takeBack 10 (hR h 3 slot) h = some (hR h 13 at0, sI (sI (sI (sR h 13 at0 (hR h 3 slot)) 10 1 (i32 act)) 10 2 (i32 (at0 : Int))) 10 0 (i32 (rest.length : Int))) := by
      have q18 : hI (sI (sI (sR h 13 at0 (hR h 3 slot)) 10 1 (i32 act)) 10 2 (i32 (at0 : Int))) 10 0 = i32 ((rest.length + 1 : Nat) : Int) := by
        rw [hI_sI, if_neg (by omega), hI_sI, if_neg (by omega)]; exact n4
      have q15 : hI (sR h 13 at0 (hR h 3 slot)) 11 at0 = i32 act := v1
      unfold fX0_takeBack
      rw [if_pos co.k10, elat, bd_some, co.r10_5, if_pos co.k13, co.l13, if_pos xn, lt_def]
      simp only [nn]
      rw [if_pos kS, lt_def, c10.r10_3, if_pos c10.k11, c10.l11, if_pos xn]
      rw [q15, lt_def, lt_def, q18, one32, i32_sub, z32, c_max32 ⟨by omega, by omega⟩ ⟨by decide, by decide⟩, bd_some, lt_def]
      rw [show (if ((rest.length + 1 : Nat) : Int) - 1 ≤ 0 then (0 : Int) else ((rest.length + 1 : Nat) : Int) - 1) = (rest.length : Int) by split <;> omega]
    have ne0 : ¬ hI h 10 0 = 0 := by
      rw [n4, z32]
      intro z
      have := (i32_eq (a := ((rest.length + 1 : Nat) : Int)) (b := 0) ⟨by omega, by omega⟩ ⟨by decide, by decide⟩).mp z
      omega
    have hg : ∃ g, g = sI (sI (sI (sR h 13 at0 (hR h 3 slot)) 10 1 (i32 act)) 10 2 (i32 (at0 : Int))) 10 0 (i32 (rest.length : Int)) := ⟨_, rfl⟩
    obtain ⟨g, eg⟩ := hg
    rw [← eg] at etb
    have cg : Co g := by rw [eg]; exact c10.same rfl (fun _ _ _ _ _ => rfl)
    have kg13 : kc g (hR h 13 at0) = 4 := by rw [eg]; exact kN
    have eh2 : h' = sI (sR g 3 slot (hR h 13 at0)) 2 6 0 := by rw [eh, eg]
    have co' : Co h' := co.same kept.1 kept.2.2.1
    unfold fX6_undo
    rw [if_pos co.k2, co.r2_2, if_pos co.k10, if_neg ne0, els, bd_some, co.r2_0, if_pos co.k3, co.l3, if_pos sl1, co.r2_2, if_pos co.k10]
    simp only [sn]
    rw [etb, bd_some, if_pos kg13, if_pos cg.k3, cg.l3, if_pos sl1, lt_def, lt_def, ← eh2, co'.r2_2, if_pos co'.k10, rI, if_neg (by omega), if_neg (by omega), if_neg (by omega), if_pos ⟨rfl, rfl⟩]
  · rw [rI, if_neg (by omega), if_neg (by omega), if_pos ⟨rfl, rfl⟩]
  · rw [rI, if_neg (by omega), if_pos ⟨rfl, rfl⟩]
  · have e1 : ((act, slot, old) :: rest)[t + 1]? = some u := by rw [List.getElem?_cons_succ]; exact e0
    have ht : t < 7 := by
      have := (List.getElem?_eq_some_iff.mp e0).1
      omega
    have v := n5 (t + 1) u e1
    have p1 : (at0 + 7 - t) % 8 = (nx + 7 - (t + 1)) % 8 := by omega
    have p2 : (nx + 7 - (t + 1)) % 8 ≠ at0 := by omega
    rw [p1]
    refine ⟨by rw [rI, if_neg (by omega), if_neg (by omega), if_neg (by omega), if_neg (by omega)]; exact v.1, by rw [rI, if_neg (by omega), if_neg (by omega), if_neg (by omega), if_neg (by omega)]; exact v.2.1, v.2.2.1, ?_⟩
    show lst (swp slot (8 + at0) (8 + (nx + 7 - (t + 1)) % 8)) = u.2.2
    rw [show swp slot (8 + at0) (8 + (nx + 7 - (t + 1)) % 8) = 8 + (nx + 7 - (t + 1)) % 8 by unfold swp; rw [if_neg (by omega), if_neg (by omega)]]
    exact v.2.2.2
end ST
