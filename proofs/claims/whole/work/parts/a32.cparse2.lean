/-! READ: the class reads a fraction; told knots and their spans -/
section CF
variable {h : xH} {n : Nat} {T : Tap} {p : Nat}
theorem c_frac (t : Tp h n T p) : (∀ f, fraP T n p = .inl f → ∃ h', fX5_readFraction 64 h = some (0, h') ∧ hI h' 64 1 = i32 (f : Int) ∧ Fr ASF h h') ∧ (∀ v e, fraP T n p = .inr (v, e) → ∃ h', fX5_readFraction 64 h = some (1, h') ∧ hI h' 64 6 = i32 v ∧ hI h' 64 5 = i32 (sk T n p : Int) ∧ Tp h' n T e ∧ Fr AS6 h h') := by
  have co := t.1
  obtain ⟨h1, E1, t1, F1⟩ := c_skip t
  have f3 : hI h1 64 3 = i32 (sk T n p : Int) := t1.2.2.2.1
  have F2 : Fr (fun r k => r = 64 ∧ k = 5) h1 (sI h1 64 5 (i32 (sk T n p : Int))) := Fr.I _ ⟨rfl, rfl⟩
  have t2 : Tp (sI h1 64 5 (i32 (sk T n p : Int))) n T (sk T n p) := t1.sm F2 ⟨by omega, by omega, fun k => by omega⟩
  have tk := c_take t2 45
  have k3 : ∃ h3, fX5_takeSign 64 45 (sI h1 64 5 (i32 (sk T n p : Int))) = some (bz (isM T n (sk T n p)), h3) ∧ Tp h3 n T (if isM T n (sk T n p) = true then sk T n p + 1 else sk T n p) ∧ Fr AS3 (sI h1 64 5 (i32 (sk T n p : Int))) h3 := by
    by_cases c : sk T n p < n ∧ T (sk T n p) = 45
    · have em : isM T n (sk T n p) = true := decide_eq_true c
      rw [em, if_pos rfl]
      exact tk.1 c
    · have em : isM T n (sk T n p) = false := decide_eq_false c
      rw [em, if_neg (by decide)]
      exact ⟨_, tk.2 c, t2, Fr.rf _⟩
  obtain ⟨h3, E3, t3, F3⟩ := k3
  have i5 : hI h3 64 5 = i32 (sk T n p : Int) := by rw [(F3.2.2 64 5 (by unfold AS3; omega)).1, hI_sI, if_pos ⟨rfl, rfl⟩]
  have F13 : Fr AS6 h h3 := ((F1.mono (fun r k z => by unfold AS3 at z; unfold AS6; omega)).tr (F2.mono (fun r k z => by unfold AS6; omega))).tr (F3.mono (fun r k z => by unfold AS3 at z; unfold AS6; omega))
  have sf : ∀ {x y : xH}, Fr AS6 x y → Fr ASF x y := fun f => f.mono (fun r k z => ⟨z.1, by have := z.2; omega⟩)
  have nm := c_num (least := 0) (most := 9999) t3 (by decide) (by decide)
  have E0 : ∀ (R : Option (Int32 × xH)), (bd (fX5_readNumber 64 (0 : Int32) (9999 : Int32) h3) (fun w14 g12 => if w14 = 0 then (some ((0 : Int32), g12)) else (lt ((hI g12 64 4) * (60 : Int32)) (fun v16 => lt (1 : Int32) (fun v17 => bd (fX5_skipBlanks 64 g12) (fun _ g18 => bd (fX5_takeSign 64 (47 : Int32) g18) (fun w23 g21 => if w23 = 0 then (fX5_readFraction_b72 64 (bz (isM T n (sk T n p))) v16 v17 g21) else (bd (fX5_readNumber 64 (1 : Int32) (60 : Int32) g21) (fun w27 g25 => if w27 = 0 then (some ((0 : Int32), g25)) else (lt (hI g25 64 4) (fun v29 => fX5_readFraction_b72 64 (bz (isM T n (sk T n p))) v16 v29 g25))))))))))) = R → fX5_readFraction 64 h = R := by
    intro R hR
    unfold fX5_readFraction
    rw [if_pos co.k64, E1, bd_some, lt_def, f3, E3, bd_some]
    exact hR
  cases e1 : numP T n 0 9999 (if isM T n (sk T n p) = true then sk T n p + 1 else sk T n p) with
  | inl f =>
    have ef : fraP T n p = .inl f := by unfold fraP; rw [e1]; rfl
    obtain ⟨h4, E4, g1, F4⟩ := nm.1 f e1
    have E4' : fX5_readNumber 64 0 9999 h3 = some (0, h4) := E4
    refine ⟨fun f' hf => ⟨h4, E0 _ (by rw [E4', bd_some, if_pos rfl]), ?_, (sf F13).tr F4⟩, fun v e hv => ?_⟩
    · rw [ef] at hf
      rw [g1, Sum.inl.inj hf]
    · rw [ef] at hv; cases hv
  | inr r =>
    obtain ⟨a, p2⟩ := r
    obtain ⟨h4, E4, g4, t4, F4⟩ := nm.2 a p2 e1
    have E4' : fX5_readNumber 64 0 9999 h3 = some (1, h4) := E4
    have b1 := num_b t3.2.2.2.2.1 e1
    obtain ⟨h5, E5, t5, F5⟩ := c_skip t4
    have F15 : Fr AS6 h h5 := (F13.tr (F4.mono (fun r k z => by unfold AS4 at z; unfold AS6; omega))).tr (F5.mono (fun r k z => by unfold AS3 at z; unfold AS6; omega))
    have j5 : hI h5 64 5 = i32 (sk T n p : Int) := by rw [(F5.2.2 64 5 (by unfold AS3; omega)).1, (F4.2.2 64 5 (by unfold AS4; omega)).1]; exact i5
    have ev6 : hI h4 64 4 * (60 : Int32) = i32 ((60 * a : Nat) : Int) := by
      rw [g4, show (60 : Int32) = i32 60 from rfl, i32_mul, show (a : Int) * 60 = ((60 * a : Nat) : Int) by omega]
    have ef : fraP T n p = fra3 (sk T n p) (isM T n (sk T n p)) a (if sk T n p2 < n ∧ T (sk T n p2) = 47 then numP T n 1 60 (sk T n p2 + 1) else .inr (1, sk T n p2)) := by unfold fraP; rw [e1]; rfl
    have fin : ∀ (hh : xH) (b p3 : Nat), Tp hh n T p3 → hI hh 64 5 = i32 (sk T n p : Int) → 1 ≤ b ∧ b ≤ 60 → Fr AS6 h hh → (∀ f, fra3 (sk T n p) (isM T n (sk T n p)) a (.inr (b, p3)) = .inl f → ∃ h', fX5_readFraction_b72 64 (bz (isM T n (sk T n p))) (i32 ((60 * a : Nat) : Int)) (i32 (b : Int)) hh = some (0, h') ∧ hI h' 64 1 = i32 (f : Int) ∧ Fr ASF h h') ∧ (∀ v e, fra3 (sk T n p) (isM T n (sk T n p)) a (.inr (b, p3)) = .inr (v, e) → ∃ h', fX5_readFraction_b72 64 (bz (isM T n (sk T n p))) (i32 ((60 * a : Nat) : Int)) (i32 (b : Int)) hh = some (1, h') ∧ hI h' 64 6 = i32 v ∧ hI h' 64 5 = i32 (sk T n p : Int) ∧ Tp h' n T e ∧ Fr AS6 h h') := by
      intro hh b p3 tt h5 hb FF
      have c7 := c_b72 (a := a) (b := b) (less := isM T n (sk T n p)) tt.1 h5 (by omega) hb
      refine ⟨fun f hf => ?_, fun v e hv => ?_⟩
      · unfold fra3 at hf
        dsimp only at hf
        split at hf
        · rename_i c
          refine ⟨_, c7.1 c, by rw [hI_sI, if_pos ⟨rfl, rfl⟩, Sum.inl.inj hf], (sf FF).tr (Fr.I _ ⟨rfl, by decide⟩)⟩
        · cases hf
      · unfold fra3 at hv
        dsimp only at hv
        split at hv
        · cases hv
        · rename_i c
          have e3 := Sum.inr.inj hv
          have e4 := congrArg Prod.fst e3
          have e5 := congrArg Prod.snd e3
          dsimp only at e4 e5
          have f6 : Fr (fun r k => r = 64 ∧ k = 6) hh (sI hh 64 6 (i32 v)) := Fr.I _ ⟨rfl, rfl⟩
          refine ⟨sI hh 64 6 (i32 v), by rw [c7.2 c, e4], by rw [hI_sI, if_pos ⟨rfl, rfl⟩], by rw [hI_sI, if_neg (by omega)]; exact h5, ?_, FF.tr (f6.mono (fun r k z => by unfold AS6; omega))⟩
          rw [← e5]
          exact tt.sm f6 ⟨by omega, by omega, fun k => by omega⟩
    have tk5 := c_take t5 47
    by_cases c2 : sk T n p2 < n ∧ T (sk T n p2) = 47
    · rw [if_pos c2] at ef
      obtain ⟨h6, E6, t6, F6⟩ := tk5.1 c2
      have F16 : Fr AS6 h h6 := F15.tr (F6.mono (fun r k z => by unfold AS3 at z; unfold AS6; omega))
      have nm2 := c_num (least := 1) (most := 60) t6 (by decide) (by decide)
      cases e2 : numP T n 1 60 (sk T n p2 + 1) with
      | inl f =>
        rw [e2] at ef
        obtain ⟨h7, E7, g7, F7⟩ := nm2.1 f e2
        have E7' : fX5_readNumber 64 1 60 h6 = some (0, h7) := E7
        refine ⟨fun f' hf => ⟨h7, E0 _ (by rw [E4', bd_some, if_neg (by decide), lt_def, lt_def, E5, bd_some, E6, bd_some, if_neg (by decide), E7', bd_some, if_pos rfl]), ?_, (sf F16).tr F7⟩, fun v e hv => ?_⟩
        · rw [ef] at hf
          rw [g7, Sum.inl.inj hf]
        · rw [ef] at hv; cases hv
      | inr r =>
        obtain ⟨b, p3⟩ := r
        rw [e2] at ef
        obtain ⟨h7, E7, g7, t7, F7⟩ := nm2.2 b p3 e2
        have E7' : fX5_readNumber 64 1 60 h6 = some (1, h7) := E7
        have b2 := num_b t6.2.2.2.2.1 e2
        have j7 : hI h7 64 5 = i32 (sk T n p : Int) := by rw [(F7.2.2 64 5 (by unfold AS4; omega)).1, (F6.2.2 64 5 (by unfold AS3; omega)).1]; exact j5
        have FN := fin h7 b p3 t7 j7 ⟨by omega, by omega⟩ (F16.tr (F7.mono (fun r k z => by unfold AS4 at z; unfold AS6; omega)))
        refine ⟨fun f hf => ?_, fun v e hv => ?_⟩
        · rw [ef] at hf
          obtain ⟨h8, E8, R8⟩ := FN.1 f hf
          exact ⟨h8, E0 _ (by rw [E4', bd_some, if_neg (by decide), lt_def, lt_def, E5, bd_some, E6, bd_some, if_neg (by decide), E7', bd_some, if_neg (by decide), lt_def, ev6, g7, E8]), R8⟩
        · rw [ef] at hv
          obtain ⟨h8, E8, R8⟩ := FN.2 v e hv
          exact ⟨h8, E0 _ (by rw [E4', bd_some, if_neg (by decide), lt_def, lt_def, E5, bd_some, E6, bd_some, if_neg (by decide), E7', bd_some, if_neg (by decide), lt_def, ev6, g7, E8]), R8⟩
    · rw [if_neg c2] at ef
      have FN := fin h5 1 (sk T n p2) t5 j5 (by decide) F15
      refine ⟨fun f hf => ?_, fun v e hv => ?_⟩
      · rw [ef] at hf
        obtain ⟨h8, E8, R8⟩ := FN.1 f hf
        exact ⟨h8, E0 _ (by rw [E4', bd_some, if_neg (by decide), lt_def, lt_def, E5, bd_some, tk5.2 c2, bd_some, if_pos rfl, ev6]; exact E8), R8⟩
      · rw [ef] at hv
        obtain ⟨h8, E8, R8⟩ := FN.2 v e hv
        exact ⟨h8, E0 _ (by rw [E4', bd_some, if_neg (by decide), lt_def, lt_def, E5, bd_some, tk5.2 c2, bd_some, if_pos rfl, ev6]; exact E8), R8⟩
end CF
/-! spans of told knots -/
def spF (s : TS) (k : Nat) : Option Spn := if tG s k = true then some (tX s k, tY s k, tX s (k + 1), tY s (k + 1)) else if k = 0 ∨ tG s (k - 1) = false then some (tX s k, tY s k, tX s k, tY s k) else none
def fulT (s : TS) : List Spn := (List.range (tN s)).filterMap (spF s)
def preT (s : TS) : List Spn := (List.range (tN s - 1)).filterMap (spF s)
theorem fm_cg {α : Type} {f g : Nat → Option α} : ∀ N, (∀ k, k < N → f k = g k) → (List.range N).filterMap f = (List.range N).filterMap g := by
  intro N
  induction N with
  | zero => intro _; rfl
  | succ N ih =>
    intro hh
    rw [fm_succ, fm_succ, ih (fun k hk => hh k (by omega)), hh N (by omega)]
section SF
variable {s : TS} {x y : Int}
theorem pre_first (h : TOk s) : preT (addT s true x y) = fulT s := by
  have eX : ∀ k, tX (addT s true x y) k = if k = tN s then x else tX s k := fun k => rfl
  have eY : ∀ k, tY (addT s true x y) k = if k = tN s then y else tY s k := fun k => rfl
  have eG : ∀ k, tG (addT s true x y) k = if k = tN s then false else tG s k := fun k => rfl
  unfold preT fulT
  have e0 : tN (addT s true x y) - 1 = tN s := rfl
  rw [e0]
  refine fm_cg _ (fun k hk => ?_)
  unfold spF
  have n1 : ¬ k = tN s := by omega
  have n2 : ¬ k - 1 = tN s := by omega
  rw [eG, eG, eX, eX, eY, eY, if_neg n1, if_neg n1, if_neg n1, if_neg n2]
  by_cases g : tG s k = true
  · have := h.2.2.2 k hk g
    have n3 : ¬ k + 1 = tN s := by omega
    rw [if_pos g, if_pos g, if_neg n3, if_neg n3]
  · rw [if_neg g, if_neg g]
theorem pre_next (h : TOk s) (h0 : 0 < tN s) : preT (addT s false x y) = preT s ++ [(tX s (tN s - 1), tY s (tN s - 1), x, y)] := by
  have eX : ∀ k, tX (addT s false x y) k = if k = tN s then x else tX s k := fun k => rfl
  have eY : ∀ k, tY (addT s false x y) k = if k = tN s then y else tY s k := fun k => rfl
  have eG : ∀ k, tG (addT s false x y) k = if k = tN s - 1 then true else if k = tN s then false else tG s k := fun k => rfl
  unfold preT
  have e0 : tN (addT s false x y) - 1 = (tN s - 1) + 1 := by
    show tN s + 1 - 1 = tN s - 1 + 1
    omega
  rw [e0, fm_succ]
  congr 1
  · refine fm_cg _ (fun k hk => ?_)
    unfold spF
    rw [eG, eG, eX, eX, eY, eY, if_neg (show ¬ k = tN s - 1 by omega), if_neg (show ¬ k = tN s by omega), if_neg (show ¬ k = tN s by omega), if_neg (show ¬ k = tN s by omega), if_neg (show ¬ k + 1 = tN s by omega), if_neg (show ¬ k + 1 = tN s by omega), if_neg (show ¬ k - 1 = tN s - 1 by omega), if_neg (show ¬ k - 1 = tN s by omega)]
  · unfold spF
    rw [eG, if_pos rfl, if_pos rfl, eX, eX, eY, eY, if_neg (show ¬ tN s - 1 = tN s by omega), if_neg (show ¬ tN s - 1 = tN s by omega), if_pos (show tN s - 1 + 1 = tN s by omega), if_pos (show tN s - 1 + 1 = tN s by omega)]
    rfl
theorem ful_end (h : TOk s) (h0 : 0 < tN s) : fulT s = preT s ++ (if tN s = 1 ∨ tG s (tN s - 2) = false then [(tX s (tN s - 1), tY s (tN s - 1), tX s (tN s - 1), tY s (tN s - 1))] else []) := by
  have gl : ¬ tG s (tN s - 1) = true := fun z => by have := h.2.2.2 (tN s - 1) (by omega) z; omega
  unfold fulT preT
  have e1 : (List.range (tN s)).filterMap (spF s) = (List.range (tN s - 1 + 1)).filterMap (spF s) := by rw [show tN s - 1 + 1 = tN s by omega]
  rw [e1, fm_succ]
  congr 1
  unfold spF
  rw [if_neg gl]
  by_cases c : tN s = 1 ∨ tG s (tN s - 2) = false
  · rw [if_pos c, if_pos (by rcases c with c | c; exact Or.inl (by omega); exact Or.inr (by rw [show tN s - 1 - 1 = tN s - 2 by omega]; exact c))]
    rfl
  · rw [if_neg c, if_neg (fun z => c (by rcases z with z | z; exact Or.inl (by omega); exact Or.inr (by rw [show tN s - 2 = tN s - 1 - 1 by omega]; exact z)))]
    rfl
end SF
