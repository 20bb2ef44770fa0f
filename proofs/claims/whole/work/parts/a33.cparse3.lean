/-! READ: the class reads knots and the TEXT -/
def ASK (r k : Nat) : Prop := (r = 64 ∧ 3 ≤ k) ∨ AY 67 r k
def ASL (r k : Nat) : Prop := (r = 64 ∧ 0 < k) ∨ AY 67 r k
def Ck (h : xH) (s : TS) (kp : Nat) : Prop := hI h 64 7 = i32 (tN s : Int) ∧ hI h 64 8 = i32 (kp : Int) ∧ (0 < tN s → hI h 64 9 = i32 (tX s (tN s - 1)) ∧ hI h 64 10 = i32 (tY s (tN s - 1))) ∧ kp ≤ tN s
def lnT0 (s : TS) (kp : Nat) : List Ln := (if kp = 0 then fulT s else preT s).map lby
def Prk (s : TS) (kp : Nat) : Prop := 0 < kp → (0 < tN s ∧ (kp = 1 ↔ (tN s = 1 ∨ tG s (tN s - 2) = false)))
theorem ln_len (s : TS) (kp : Nat) : (lnT0 s kp).length ≤ tN s := by
  unfold lnT0
  rw [List.length_map]
  split
  · exact fm_len _ _
  · exact Nat.le_trans (fm_len _ _) (Nat.sub_le _ _)
theorem fra_sk (T : Tap) (n p : Nat) : fraP T n (sk T n p) = fraP T n p := by
  unfold fraP; rw [sk_sk]
section CK
variable {h : xH} {n : Nat} {T : Tap} {p kp : Nat} {s : TS}
theorem Ck.fr {A : Nat → Nat → Prop} {h' : xH} (c : Ck h s kp) (f : Fr A h h') (hA : ∀ k, 7 ≤ k → ¬ A 64 k) : Ck h' s kp := ⟨by rw [(f.2.2 64 7 (hA 7 (by decide))).1]; exact c.1, by rw [(f.2.2 64 8 (hA 8 (by decide))).1]; exact c.2.1, fun z => by rw [(f.2.2 64 9 (hA 9 (by decide))).1, (f.2.2 64 10 (hA 10 (by decide))).1]; exact c.2.2.1 z, c.2.2.2⟩
theorem c_b35 {x y : Int32} {N kp : Int} (co : Co h) (e7 : hI h 64 7 = i32 N) (e8 : hI h 64 8 = i32 kp) : fX5_addReadKnot_b35 64 x y h = some ((), sI (sI (sI (sI h 64 9 x) 64 10 y) 64 7 (i32 (N + 1))) 64 8 (i32 (kp + 1))) := by
  have k1 : kc h 64 = 5 := co.k64
  unfold fX5_addReadKnot_b35
  rw [if_pos k1, lt_def, lt_def, lt_def, lt_def]
  rw [show hI (sI (sI h 64 9 x) 64 10 y) 64 7 = i32 N by rw [hI_sI, if_neg (by omega), hI_sI, if_neg (by omega)]; exact e7, one32, i32_add]
  rw [show hI (sI (sI (sI h 64 9 x) 64 10 y) 64 7 (i32 (N + 1))) 64 8 = i32 kp by rw [hI_sI, if_neg (by omega), hI_sI, if_neg (by omega), hI_sI, if_neg (by omega)]; exact e8, i32_add]
theorem c_addRK {x y : Int} (t : Tp h n T p) (ok : TOk s) (ck : Ck h s kp) (cl : CLl h 67 (lnT0 s kp)) (pr : Prk s kp) (hN : tN s < 12) (he : early s (decide (kp = 0)) x = false) (bx : -5940 ≤ x ∧ x ≤ 5940) (by0 : -5940 ≤ y ∧ y ≤ 5940) : ∃ h', fX5_addReadKnot 64 67 (i32 x) (i32 y) h = some ((), h') ∧ Ck h' (addT s (decide (kp = 0)) x y) (kp + 1) ∧ CLl h' 67 (lnT0 (addT s (decide (kp = 0)) x y) (kp + 1)) ∧ Prk (addT s (decide (kp = 0)) x y) (kp + 1) ∧ Tp h' n T p ∧ Fr ASK h h' := by
  have co := t.1
  obtain ⟨c7, c8, c9, ckp⟩ := id ck
  have gl : 0 < tN s → tG s (tN s - 1) = false := fun z => by
    cases g : tG s (tN s - 1) with
    | false => rfl
    | true => have := ok.2.2.2 (tN s - 1) (by omega) g; omega
  -- what the last block does to a heap that holds the lines
  have fin : ∀ g : xH, Co g → hI g 64 7 = i32 (tN s : Int) → hI g 64 8 = i32 (kp : Int) → Tp g n T p → Fr ASK h g → CLl g 67 (lnT0 (addT s (decide (kp = 0)) x y) (kp + 1)) → ∃ h', fX5_addReadKnot_b35 64 (i32 x) (i32 y) g = some ((), h') ∧ Ck h' (addT s (decide (kp = 0)) x y) (kp + 1) ∧ CLl h' 67 (lnT0 (addT s (decide (kp = 0)) x y) (kp + 1)) ∧ Tp h' n T p ∧ Fr ASK h h' := by
    intro g cg g7 g8 tg Fg lg
    have F : Fr (fun r k => r = 64 ∧ 7 ≤ k) g (sI (sI (sI (sI g 64 9 (i32 x)) 64 10 (i32 y)) 64 7 (i32 ((tN s : Int) + 1))) 64 8 (i32 ((kp : Int) + 1))) := (((Fr.I _ ⟨rfl, by decide⟩).tr (Fr.I _ ⟨rfl, by decide⟩)).tr (Fr.I _ ⟨rfl, by decide⟩)).tr (Fr.I _ ⟨rfl, by decide⟩)
    refine ⟨_, c_b35 cg g7 g8, ⟨?_, ?_, fun _ => ⟨?_, ?_⟩, ?_⟩, lg.fr F (fun r k z y => by unfold AY at z; omega), tg.sm F ⟨by omega, by omega, fun k => by omega⟩, Fg.tr (F.mono (fun r k z => Or.inl ⟨z.1, by have := z.2; omega⟩))⟩
    · rw [hI_sI, if_neg (by omega), hI_sI, if_pos ⟨rfl, rfl⟩]; rfl
    · rw [hI_sI, if_pos ⟨rfl, rfl⟩]; rfl
    · rw [hI_sI, if_neg (by omega), hI_sI, if_neg (by omega), hI_sI, if_neg (by omega), hI_sI, if_pos ⟨rfl, rfl⟩]
      show i32 x = i32 (if tN s + 1 - 1 = tN s then x else tX s (tN s + 1 - 1))
      rw [if_pos (by omega)]
    · rw [hI_sI, if_neg (by omega), hI_sI, if_neg (by omega), hI_sI, if_pos ⟨rfl, rfl⟩]
      show i32 y = i32 (if tN s + 1 - 1 = tN s then y else tY s (tN s + 1 - 1))
      rw [if_pos (by omega)]
    · show kp + 1 ≤ tN s + 1
      omega
  have e1 : (if kp + 1 = 0 then fulT (addT s (decide (kp = 0)) x y) else preT (addT s (decide (kp = 0)) x y)) = preT (addT s (decide (kp = 0)) x y) := if_neg (by omega)
  by_cases c : kp = 0
  · have ed : decide (kp = 0) = true := decide_eq_true c
    have el : lnT0 (addT s (decide (kp = 0)) x y) (kp + 1) = lnT0 s kp := by
      unfold lnT0
      rw [e1, ed, pre_first ok, if_pos c]
    obtain ⟨h', E, k1, k2, k3, k4⟩ := fin h co c7 c8 t (Fr.rf h) (by rw [el]; exact cl)
    refine ⟨h', ?_, k1, k2, fun _ => ⟨by show 0 < tN s + 1; omega, ?_⟩, k3, k4⟩
    · unfold fX5_addReadKnot
      rw [if_pos co.k64, c8, if_pos (by rw [c]; decide), E]
    · rw [ed]
      refine ⟨fun _ => ?_, fun _ => by omega⟩
      by_cases z : tN s = 0
      · left; show tN s + 1 = 1; omega
      · right
        show (if tN s + 1 - 2 = tN s then false else tG s (tN s + 1 - 2)) = false
        rw [if_neg (by omega), show tN s + 1 - 2 = tN s - 1 by omega]
        exact gl (by omega)
  · have ed : decide (kp = 0) = false := decide_eq_false c
    obtain ⟨h0, hiff⟩ := pr (by omega)
    obtain ⟨i9, i10⟩ := c9 h0
    rw [ed] at he
    have he2 := of_decide_eq_false he
    rw [if_neg (by decide)] at he2
    have hx : tX s (tN s - 1) < x := by
      by_cases z : tX s (tN s - 1) < x
      · exact z
      · exact absurd ⟨h0, by omega⟩ he2
    have bl := ok.2.1 (tN s - 1) (by omega)
    have hlen := ln_len s kp
    obtain ⟨g, E1, A1, F1⟩ := c_addBetween (co.lo67) cl (by omega) (by decide) (x := tX s (tN s - 1)) (y := tY s (tN s - 1)) (a := x - tX s (tN s - 1)) (u := y - tY s (tN s - 1)) ⟨by omega, by omega⟩ (by omega) ⟨by omega, by omega⟩
    rw [show tX s (tN s - 1) + (x - tX s (tN s - 1)) = x by omega, show tY s (tN s - 1) + (y - tY s (tN s - 1)) = y by omega] at A1
    have el : lnT0 (addT s (decide (kp = 0)) x y) (kp + 1) = lnT0 s kp ++ [lby (tX s (tN s - 1), tY s (tN s - 1), x, y)] := by
      unfold lnT0
      rw [e1, ed, pre_next ok h0, if_neg c, List.map_append]
      rfl
    have a64 : ∀ k, ¬ AY 67 64 k := fun k z => by unfold AY at z; omega
    obtain ⟨h', E, k1, k2, k3, k4⟩ := fin g (F1.co co) (by rw [(F1.2.2 64 7 (a64 7)).1]; exact c7) (by rw [(F1.2.2 64 8 (a64 8)).1]; exact c8) (t.sm F1 ⟨a64 0, a64 3, fun k z => by unfold AY at z; omega⟩) (F1.mono (fun r k z => Or.inr z)) (by rw [el]; exact A1)
    refine ⟨h', ?_, k1, k2, fun _ => ⟨by show 0 < tN s + 1; omega, ?_⟩, k3, k4⟩
    · unfold fX5_addReadKnot
      rw [if_pos co.k64, c8, if_neg (fun z => by have := (i32_le (b := 0) ⟨by omega, by omega⟩ ⟨by decide, by decide⟩).mp z; omega), if_pos co.lo67.1, i9, i10, i32_sub, i32_sub, i64_of32 ⟨by omega, by omega⟩, i64_of32 ⟨by omega, by omega⟩, i64_of32 ⟨by omega, by omega⟩, i64_of32 ⟨by omega, by omega⟩, E1, bd_some, E]
    · rw [ed]
      refine ⟨fun z => by omega, fun z => ?_⟩
      exfalso
      rcases z with z | z
      · have z : tN s + 1 = 1 := z
        omega
      · have z : (if tN s + 1 - 2 = tN s - 1 then true else if tN s + 1 - 2 = tN s then false else tG s (tN s + 1 - 2)) = false := z
        rw [if_pos (by omega)] at z
        cases z
theorem c_endPart (t : Tp h n T p) (ok : TOk s) (ck : Ck h s kp) (cl : CLl h 67 (lnT0 s kp)) (pr : Prk s kp) (hk : 0 < kp) : ∃ h', fX5_endPart 64 67 h = some ((), h') ∧ Ck h' s 0 ∧ CLl h' 67 (lnT0 s 0) ∧ Tp h' n T p ∧ Fr ASK h h' := by
  have co := t.1
  obtain ⟨c7, c8, c9, ckp⟩ := id ck
  obtain ⟨h0, hiff⟩ := pr hk
  obtain ⟨i9, i10⟩ := c9 h0
  have bl := ok.2.1 (tN s - 1) (by omega)
  have n12 := ok.1
  have a64 : ∀ k, ¬ AY 67 64 k := fun k z => by unfold AY at z; omega
  have e0 : lnT0 s kp = (preT s).map lby := by unfold lnT0; rw [if_neg (by omega)]
  have e1 : lnT0 s 0 = (fulT s).map lby := by unfold lnT0; rw [if_pos rfl]
  have fin : ∀ g : xH, Co g → Ck g s kp → Tp g n T p → Fr ASK h g → CLl g 67 (lnT0 s 0) → ∃ h', fX5_endPart_b24 64 g = some ((), h') ∧ Ck h' s 0 ∧ CLl h' 67 (lnT0 s 0) ∧ Tp h' n T p ∧ Fr ASK h h' := by
    intro g cg kg0 tg Fg lg
    have F : Fr (fun r k => r = 64 ∧ k = 8) g (sI g 64 8 0) := Fr.I _ ⟨rfl, rfl⟩
    refine ⟨sI g 64 8 0, ?_, ⟨by rw [(F.2.2 64 7 (by omega)).1]; exact kg0.1, by rw [hI_sI, if_pos ⟨rfl, rfl⟩]; rfl, fun z => by rw [(F.2.2 64 9 (by omega)).1, (F.2.2 64 10 (by omega)).1]; exact kg0.2.2.1 z, by omega⟩, lg.fr F (fun r k z y => by unfold AY at z; omega), tg.sm F ⟨by omega, by omega, fun k => by omega⟩, Fg.tr (F.mono (fun r k z => Or.inl ⟨z.1, by have := z.2; omega⟩))⟩
    unfold fX5_endPart_b24
    rw [if_pos cg.k64, lt_def]
  by_cases c : kp = 1
  · have hlen := ln_len s kp
    obtain ⟨g, E1, A1, F1⟩ := c_addBetween (co.lo67) cl (by omega) (by decide) (x := tX s (tN s - 1)) (y := tY s (tN s - 1)) (a := 0) (u := 0) ⟨by omega, by omega⟩ (by omega) ⟨by omega, by omega⟩
    rw [Int.add_zero, Int.add_zero] at A1
    have el : lnT0 s 0 = lnT0 s kp ++ [lby (tX s (tN s - 1), tY s (tN s - 1), tX s (tN s - 1), tY s (tN s - 1))] := by
      rw [e0, e1, ful_end ok h0, if_pos (hiff.mp c), List.map_append]
      rfl
    obtain ⟨h', E, R⟩ := fin g (F1.co co) (ck.fr F1 (fun k _ => a64 k)) (t.sm F1 ⟨a64 0, a64 3, fun k z => by unfold AY at z; omega⟩) (F1.mono (fun r k z => Or.inr z)) (by rw [el]; exact A1)
    refine ⟨h', ?_, R⟩
    unfold fX5_endPart
    rw [if_pos co.k64, c8, if_pos (by rw [c]; rfl), if_pos co.lo67.1, i9, i10, i64_of32 ⟨by omega, by omega⟩, i64_of32 ⟨by omega, by omega⟩, z64, E1, bd_some, E]
  · have el : lnT0 s 0 = lnT0 s kp := by
      rw [e0, e1, ful_end ok h0, if_neg (fun z => c (hiff.mpr z)), List.append_nil]
    obtain ⟨h', E, R⟩ := fin h co ck t (Fr.rf h) (by rw [el]; exact cl)
    refine ⟨h', ?_, R⟩
    unfold fX5_endPart
    rw [if_pos co.k64, c8, if_neg (fun z => c (by have := (i32_eq (b := 1) ⟨by omega, by omega⟩ ⟨by decide, by decide⟩).mp z; omega)), E]
theorem ask_asl {x y : xH} (f : Fr ASK x y) : Fr ASL x y := f.mono (fun r k z => by unfold ASK at z; unfold ASL; rcases z with z | z; exact Or.inl ⟨z.1, by have := z.2; omega⟩; exact Or.inr z)
theorem asf_asl {x y : xH} (f : Fr ASF x y) : Fr ASL x y := f.mono (fun r k z => Or.inl z)
theorem as3_ask {x y : xH} (f : Fr AS3 x y) : Fr ASK x y := f.mono (fun r k z => Or.inl ⟨z.1, by have := z.2; omega⟩)
theorem as6_ask {x y : xH} (f : Fr AS6 x y) : Fr ASK x y := f.mono (fun r k z => Or.inl ⟨z.1, z.2.1⟩)
theorem c_knot (t : Tp h n T p) (ok : TOk s) (ck : Ck h s kp) (cl : CLl h 67 (lnT0 s kp)) (pr : Prk s kp) : (∀ f, knoP T n (decide (kp = 0)) p s = .inl f → ∃ h', fX5_readKnot 64 67 h = some (0, h') ∧ hI h' 64 1 = i32 (f : Int) ∧ Fr ASL h h') ∧ (∀ s' e, knoP T n (decide (kp = 0)) p s = .inr (s', e) → ∃ h', fX5_readKnot 64 67 h = some (1, h') ∧ Tp h' n T e ∧ Ck h' s' (kp + 1) ∧ CLl h' 67 (lnT0 s' (kp + 1)) ∧ Prk s' (kp + 1) ∧ Fr ASK h h') := by
  have co := t.1
  have n12 := ok.1
  obtain ⟨h1, E1, t1, F1⟩ := c_skip t
  have ck1 := ck.fr F1 (fun k z y => by unfold AS3 at y; omega)
  have cl1 : CLl h1 67 (lnT0 s kp) := cl.fr F1 (fun r k z y => by unfold AY at z; unfold AS3 at y; omega)
  have f3 : hI h1 64 3 = i32 (sk T n p : Int) := t1.2.2.2.1
  have l12 : (hI h1 64 7 < (12 : Int32)) ↔ tN s < 12 := by
    rw [ck1.1, show (12 : Int32) = i32 12 from rfl, i32_lt ⟨by omega, by omega⟩ ⟨by decide, by decide⟩]; omega
  by_cases c12 : 12 ≤ tN s
  · have ek : knoP T n (decide (kp = 0)) p s = .inl (sk T n p) := if_pos c12
    refine ⟨fun f hf => ?_, fun s' e hv => by rw [ek] at hv; cases hv⟩
    rw [ek] at hf
    refine ⟨sI h1 64 1 (i32 (sk T n p : Int)), ?_, by rw [hI_sI, if_pos ⟨rfl, rfl⟩, Sum.inl.inj hf], (ask_asl (as3_ask F1)).tr (Fr.I _ (Or.inl ⟨rfl, by decide⟩))⟩
    unfold fX5_readKnot
    rw [if_pos co.k64, E1, bd_some, if_neg (fun z => by have := l12.mp z; omega), f3, c_fail t1.1, bd_some, if_pos (Or.inl rfl)]
  · have ek : knoP T n (decide (kp = 0)) p s = kno2 T n (sk T n p) s (decide (kp = 0)) (fraP T n p) := if_neg c12
    have fr1 := c_frac t1
    rw [fra_sk] at fr1
    rw [ek]
    cases e1 : fraP T n p with
    | inl f =>
      obtain ⟨h2, E2, g2, F2⟩ := fr1.1 f e1
      refine ⟨fun f' hf => ?_, fun s' e hv => by cases hv⟩
      have ef : f = f' := Sum.inl.inj hf
      refine ⟨h2, ?_, by rw [← ef]; exact g2, (ask_asl (as3_ask F1)).tr (asf_asl F2)⟩
      unfold fX5_readKnot
      rw [if_pos co.k64, E1, bd_some, if_pos (l12.mpr (by omega)), E2, bd_some, if_pos rfl]
    | inr r =>
      obtain ⟨x, p1⟩ := r
      obtain ⟨h2, E2, g6, g5, t2, F2⟩ := fr1.2 x p1 e1
      rw [sk_sk] at g5
      have b1 := fra_b t.2.2.2.2.1 e1
      have ck2 := ck1.fr F2 (fun k z y => by unfold AS6 at y; omega)
      have cl2 : CLl h2 67 (lnT0 s kp) := cl1.fr F2 (fun r k z y => by unfold AY at z; unfold AS6 at y; omega)
      have F12 : Fr ASK h h2 := (as3_ask F1).tr (as6_ask F2)
      obtain ⟨c7, c8, c9, ckp⟩ := id ck2
      have test : ∀ R : Option (Int32 × xH), (early s (decide (kp = 0)) x = true → fX5_readKnot_b69 64 67 (i32 x) h2 = R) → (early s (decide (kp = 0)) x = false → fX5_readKnot_b73 64 67 (i32 x) h2 = R) → fX5_readKnot 64 67 h = R := by
        intro R r1 r2
        unfold fX5_readKnot
        rw [if_pos co.k64, E1, bd_some, if_pos (l12.mpr (by omega)), E2, bd_some, if_neg (by decide), lt_def, g6, c7, c8]
        by_cases z0 : tN s = 0
        · have ee : early s (decide (kp = 0)) x = false := decide_eq_false (fun z => by have := z.1; omega)
          rw [if_pos (by rw [z0]; decide)]
          exact r2 ee
        · obtain ⟨i9, i10⟩ := c9 (by omega)
          have bl := ok.2.1 (tN s - 1) (by omega)
          rw [if_neg (fun z => by have := (i32_le (b := 0) ⟨by omega, by omega⟩ ⟨by decide, by decide⟩).mp z; omega), i9]
          by_cases ckz : kp = 0
          · have ed : decide (kp = 0) = true := decide_eq_true ckz
            rw [ed] at r1 r2
            rw [if_pos (by rw [ckz]; decide)]
            by_cases cx : tX s (tN s - 1) ≤ x
            · rw [if_pos ((i32_le ⟨by omega, by omega⟩ ⟨by omega, by omega⟩).mpr cx)]
              exact r2 (decide_eq_false (fun z => by have z2 := z.2; rw [if_pos rfl] at z2; omega))
            · rw [if_neg (fun z => cx ((i32_le ⟨by omega, by omega⟩ ⟨by omega, by omega⟩).mp z))]
              exact r1 (decide_eq_true ⟨by omega, by rw [if_pos rfl]; omega⟩)
          · have ed : decide (kp = 0) = false := decide_eq_false ckz
            rw [ed] at r1 r2
            rw [if_neg (fun z => by have := (i32_le (b := 0) ⟨by omega, by omega⟩ ⟨by decide, by decide⟩).mp z; omega)]
            by_cases cx : tX s (tN s - 1) < x
            · rw [if_pos ((i32_lt ⟨by omega, by omega⟩ ⟨by omega, by omega⟩).mpr cx)]
              exact r2 (decide_eq_false (fun z => by have z2 := z.2; rw [if_neg (by decide)] at z2; omega))
            · rw [if_neg (fun z => cx ((i32_lt ⟨by omega, by omega⟩ ⟨by omega, by omega⟩).mp z))]
              exact r1 (decide_eq_true ⟨by omega, by rw [if_neg (by decide)]; omega⟩)
      cases ee : early s (decide (kp = 0)) x with
      | true =>
        have e2 : kno2 T n (sk T n p) s (decide (kp = 0)) (.inr (x, p1)) = .inl (sk T n p) := if_pos ee
        rw [e2]
        refine ⟨fun f hf => ?_, fun s' e hv => by cases hv⟩
        refine ⟨sI h2 64 1 (i32 (sk T n p : Int)), test _ (fun _ => ?_) (fun z => by rw [ee] at z; cases z), by rw [hI_sI, if_pos ⟨rfl, rfl⟩, Sum.inl.inj hf], (ask_asl F12).tr (Fr.I _ (Or.inl ⟨rfl, by decide⟩))⟩
        unfold fX5_readKnot_b69 fX5_readKnot_b74
        rw [if_neg (by decide), if_pos t2.1.k64, g5, c_fail t2.1, bd_some, if_pos (Or.inl rfl)]
      | false =>
        have e2 : kno2 T n (sk T n p) s (decide (kp = 0)) (.inr (x, p1)) = if sk T n p1 < n ∧ T (sk T n p1) = 44 then kno3 s (decide (kp = 0)) x (fraP T n (sk T n p1 + 1)) else .inl (sk T n p1) := if_neg (by rw [ee]; decide)
        rw [e2]
        obtain ⟨h3, E3, t3, F3⟩ := c_skip t2
        have ck3 := ck2.fr F3 (fun k z y => by unfold AS3 at y; omega)
        have cl3 : CLl h3 67 (lnT0 s kp) := cl2.fr F3 (fun r k z y => by unfold AY at z; unfold AS3 at y; omega)
        have F13 : Fr ASK h h3 := F12.tr (as3_ask F3)
        have g3 : hI h3 64 3 = i32 (sk T n p1 : Int) := t3.2.2.2.1
        have tk := c_take t3 44
        by_cases c4 : sk T n p1 < n ∧ T (sk T n p1) = 44
        · rw [if_pos c4]
          obtain ⟨h4, E4, t4, F4⟩ := tk.1 c4
          have ck4 := ck3.fr F4 (fun k z y => by unfold AS3 at y; omega)
          have cl4 : CLl h4 67 (lnT0 s kp) := cl3.fr F4 (fun r k z y => by unfold AY at z; unfold AS3 at y; omega)
          have F14 : Fr ASK h h4 := F13.tr (as3_ask F4)
          have fr4 := c_frac t4
          cases e5 : fraP T n (sk T n p1 + 1) with
          | inl f =>
            obtain ⟨h5, E5, g55, F5⟩ := fr4.1 f e5
            refine ⟨fun f' hf => ?_, fun s' e hv => by cases hv⟩
            have ef : f = f' := Sum.inl.inj hf
            refine ⟨h5, test _ (fun z => by rw [ee] at z; cases z) (fun _ => ?_), by rw [← ef]; exact g55, (ask_asl F14).tr (asf_asl F5)⟩
            unfold fX5_readKnot_b73 fX5_readKnot_b74
            rw [if_pos rfl, if_pos t2.1.k64, E3, bd_some, E4, bd_some, if_neg (by decide), E5, bd_some, if_pos rfl]
          | inr r =>
            obtain ⟨y, p2⟩ := r
            obtain ⟨h5, E5, g56, g55, t5, F5⟩ := fr4.2 y p2 e5
            have b5 := fra_b t4.2.2.2.2.1 e5
            have ck5 := ck4.fr F5 (fun k z y => by unfold AS6 at y; omega)
            have cl5 : CLl h5 67 (lnT0 s kp) := cl4.fr F5 (fun r k z y => by unfold AY at z; unfold AS6 at y; omega)
            obtain ⟨h6, E6, ck6, cl6, pr6, t6, F6⟩ := c_addRK t5 ok ck5 cl5 pr (by omega) ee b1.2.2 b5.2.2
            refine ⟨(fun f' hf => by cases hf), fun s' e hv => ?_⟩
            have ev0 := Sum.inr.inj hv
            have es := congrArg Prod.fst ev0
            have ep := congrArg Prod.snd ev0
            dsimp only at es ep
            rw [← es, ← ep]
            refine ⟨h6, test _ (fun z => by rw [ee] at z; cases z) (fun _ => ?_), t6, ck6, cl6, pr6, (F14.tr (as6_ask F5)).tr F6⟩
            unfold fX5_readKnot_b73 fX5_readKnot_b74
            rw [if_pos rfl, if_pos t2.1.k64, E3, bd_some, E4, bd_some, if_neg (by decide), E5, bd_some, if_neg (by decide), g56, E6, bd_some]
        · rw [if_neg c4]
          refine ⟨fun f hf => ?_, fun s' e hv => by cases hv⟩
          refine ⟨sI h3 64 1 (i32 (sk T n p1 : Int)), test _ (fun z => by rw [ee] at z; cases z) (fun _ => ?_), by rw [hI_sI, if_pos ⟨rfl, rfl⟩, Sum.inl.inj hf], (ask_asl F13).tr (Fr.I _ (Or.inl ⟨rfl, by decide⟩))⟩
          unfold fX5_readKnot_b73 fX5_readKnot_b74
          rw [if_pos rfl, if_pos t2.1.k64, E3, bd_some, tk.2 c4, bd_some, if_pos rfl, g3, c_fail t3.1, bd_some, if_pos (Or.inl rfl)]
end CK
