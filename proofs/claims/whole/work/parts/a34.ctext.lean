/-! READ: the class reads the whole TEXT -/
def ts0 : TS := (0, fun _ => 0, fun _ => 0, fun _ => false)
theorem ts0_ok : TOk ts0 := ⟨by decide, (fun k hk => absurd hk (Nat.not_lt_zero k)), (fun k hk => absurd hk (Nat.not_lt_zero _)), (fun k hk => absurd hk (Nat.not_lt_zero k))⟩
section CX2
variable {n : Nat} {T : Tap}
theorem c_txt : ∀ (d step p m : Nat) (h : xH) (s : TS) (kp : Nat), n + 1 ≤ p + d → step ≤ p → d < m → Tp h n T p → TOk s → Ck h s kp → CLl h 67 (lnT0 s kp) → Prk s kp → (∀ f, txtP T n d (decide (kp = 0)) p s = .inl f → ∃ h', fX5_readText_l22 m 64 67 (i32 (step : Int)) h = some (0, h') ∧ hI h' 64 1 = i32 (f : Int) ∧ Fr ASL h h') ∧ (∀ s', txtP T n d (decide (kp = 0)) p s = .inr s' → TOk s' ∧ ∃ h', fX5_readText_l22 m 64 67 (i32 (step : Int)) h = some (1, h') ∧ hI h' 64 1 = hI h 64 1 ∧ CLl h' 67 ((fulT s').map lby) ∧ Fr ASL h h') := by
  intro d
  induction d with
  | zero =>
    intro step p m h s kp hd hst hm t
    have := t.2.2.2.2.1
    omega
  | succ d ih =>
    intro step p m h s kp hd hst hm t ok ck cl pr
    obtain ⟨m, rfl⟩ : ∃ k, m = k + 1 := ⟨m - 1, by omega⟩
    have co := t.1
    obtain ⟨-, t1, t2, t3, t4, t5⟩ := id t
    have nst : ¬ (hI h 64 0 < i32 (step : Int)) := fun z => by
      rw [t1] at z
      have := (i32_lt ⟨by omega, by omega⟩ ⟨by omega, by omega⟩).mp z
      omega
    have kk := c_knot t ok ck cl pr
    have hf : decide (kp = 0) = false → 0 < tN s := fun z => by
      have := of_decide_eq_false z
      exact (pr (by omega)).1
    have ex : txtP T n (d + 1) (decide (kp = 0)) p s = (match knoP T n (decide (kp = 0)) p s with | .inl f => .inl f | .inr (s', p') => if n ≤ sk T n p' then .inr s' else if T (sk T n p') = 124 then txtP T n d true (sk T n p' + 1) s' else txtP T n d false (sk T n p') s') := rfl
    rw [ex]
    cases e1 : knoP T n (decide (kp = 0)) p s with
    | inl f =>
      obtain ⟨h1, E1, g1, F1⟩ := kk.1 f e1
      refine ⟨fun f' hf' => ?_, fun s' hv => by cases hv⟩
      have ef : f = f' := Sum.inl.inj hf'
      refine ⟨h1, ?_, by rw [← ef]; exact g1, F1⟩
      show fX5_readText_b22 _ 64 67 _ h = _
      unfold fX5_readText_b22
      rw [if_pos co.k64, if_neg nst, E1, bd_some, if_pos rfl]
    | inr r =>
      obtain ⟨s1, p1⟩ := r
      obtain ⟨h1, E1, tt1, ck1, cl1, pr1, F1⟩ := kk.2 s1 p1 e1
      obtain ⟨ok1, lt1, le1, N1⟩ := kno_ok ok t4 hf e1
      obtain ⟨h2, E2, tt2, F2⟩ := c_skip tt1
      have ck2 := ck1.fr F2 (fun k z y => by unfold AS3 at y; omega)
      have cl2 : CLl h2 67 (lnT0 s1 (kp + 1)) := cl1.fr F2 (fun r k z y => by unfold AY at z; unfold AS3 at y; omega)
      have hs := sk_b (T := T) le1
      have F12 : Fr ASK h h2 := F1.tr (as3_ask F2)
      have k1 : ∀ {g : xH}, Fr ASK h g → hI g 64 1 = hI h 64 1 := fun f => (f.2.2 64 1 (fun z => by unfold ASK AY at z; omega)).1
      have g3 : hI h2 64 3 = i32 (sk T n p1 : Int) := tt2.2.2.2.1
      have g0 : hI h2 64 0 = i32 (n : Int) := tt2.2.1
      have lt3 : (hI h2 64 3 < hI h2 64 0) ↔ sk T n p1 < n := by
        rw [g3, g0, i32_lt ⟨by omega, by omega⟩ ⟨by omega, by omega⟩]; omega
      dsimp only
      by_cases c1 : n ≤ sk T n p1
      · rw [if_pos c1]
        obtain ⟨h3, E3, ck3, cl3, tt3, F3⟩ := c_endPart tt2 ok1 ck2 cl2 pr1 (by omega)
        refine ⟨(fun f hf' => by cases hf'), fun s' hv => ?_⟩
        have es : s1 = s' := Sum.inr.inj hv
        rw [← es]
        refine ⟨ok1, h3, ?_, k1 (F12.tr F3), by unfold lnT0 at cl3; rw [if_pos rfl] at cl3; exact cl3, ask_asl (F12.tr F3)⟩
        show fX5_readText_b22 _ 64 67 _ h = _
        unfold fX5_readText_b22
        rw [if_pos co.k64, if_neg nst, E1, bd_some, if_neg (by decide), E2, bd_some, if_neg (fun z => by have := lt3.mp z; omega), E3, bd_some]
      · rw [if_neg c1]
        have tk := c_take tt2 124
        by_cases c2 : T (sk T n p1) = 124
        · rw [if_pos c2]
          obtain ⟨h3, E3, tt3, F3⟩ := tk.1 ⟨by omega, c2⟩
          have ck3 := ck2.fr F3 (fun k z y => by unfold AS3 at y; omega)
          have cl3 : CLl h3 67 (lnT0 s1 (kp + 1)) := cl2.fr F3 (fun r k z y => by unfold AY at z; unfold AS3 at y; omega)
          obtain ⟨h4, E4, ck4, cl4, tt4, F4⟩ := c_endPart tt3 ok1 ck3 cl3 pr1 (by omega)
          have F14 : Fr ASK h h4 := (F12.tr (as3_ask F3)).tr F4
          have rcc := ih (step + 1) (sk T n p1 + 1) m h4 s1 0 (by omega) (by omega) (by omega) tt4 ok1 ck4 cl4 (fun z => absurd z (Nat.lt_irrefl 0))
          have go : ∀ R, fX5_readText_l22 m 64 67 (i32 ((step + 1 : Nat) : Int)) h4 = R → fX5_readText_l22 (m + 1) 64 67 (i32 (step : Int)) h = R := by
            intro R hR
            show fX5_readText_b22 _ 64 67 _ h = _
            unfold fX5_readText_b22 fX5_readText_b76
            rw [if_pos co.k64, if_neg nst, E1, bd_some, if_neg (by decide), E2, bd_some, if_pos (lt3.mpr (by omega)), E3, bd_some, if_neg (by decide), E4, bd_some, lt_def, one32, i32_add, kp1]
            exact hR
          have ed : decide ((0 : Nat) = 0) = true := rfl
          rw [ed] at rcc
          refine ⟨fun f hf' => ?_, fun s' hv => ?_⟩
          · obtain ⟨h5, E5, g5, F5⟩ := rcc.1 f hf'
            exact ⟨h5, go _ E5, g5, (ask_asl F14).tr F5⟩
          · obtain ⟨ok5, h5, E5, g5, cl5, F5⟩ := rcc.2 s' hv
            exact ⟨ok5, h5, go _ E5, by rw [g5]; exact k1 F14, cl5, (ask_asl F14).tr F5⟩
        · rw [if_neg c2]
          have E3 := tk.2 (fun z => c2 z.2)
          have rcc := ih (step + 1) (sk T n p1) m h2 s1 (kp + 1) (by omega) (by omega) (by omega) tt2 ok1 ck2 cl2 pr1
          have go : ∀ R, fX5_readText_l22 m 64 67 (i32 ((step + 1 : Nat) : Int)) h2 = R → fX5_readText_l22 (m + 1) 64 67 (i32 (step : Int)) h = R := by
            intro R hR
            show fX5_readText_b22 _ 64 67 _ h = _
            unfold fX5_readText_b22 fX5_readText_b76
            rw [if_pos co.k64, if_neg nst, E1, bd_some, if_neg (by decide), E2, bd_some, if_pos (lt3.mpr (by omega)), E3, bd_some, if_pos rfl, lt_def, one32, i32_add, kp1]
            exact hR
          have ed : decide (kp + 1 = 0) = false := decide_eq_false (by omega)
          rw [ed] at rcc
          refine ⟨fun f hf' => ?_, fun s' hv => ?_⟩
          · obtain ⟨h5, E5, g5, F5⟩ := rcc.1 f hf'
            exact ⟨h5, go _ E5, g5, (ask_asl F12).tr F5⟩
          · obtain ⟨ok5, h5, E5, g5, cl5, F5⟩ := rcc.2 s' hv
            exact ⟨ok5, h5, go _ E5, by rw [g5]; exact k1 F12, cl5, (ask_asl F12).tr F5⟩
def txtR (T : Tap) (n : Nat) : Sum Nat TS := txtP T n (n + 1) true 0 ts0
theorem c_readText {h : xH} (co : Co h) (e0 : hI h 64 0 = i32 (n : Int)) (eT : ∀ k, k < n → hI h 65 k = T k) (n4 : n ≤ 400) (w : CLl h 67 []) : (∀ f, txtR T n = .inl f → ∃ h', fX5_readText 64 67 h = some (0, h') ∧ hI h' 64 1 = i32 (f : Int) ∧ Fr ASL h h') ∧ (∀ s', txtR T n = .inr s' → TOk s' ∧ ∃ h', fX5_readText 64 67 h = some (1, h') ∧ hI h' 64 1 = i32 (-1) ∧ CLl h' 67 ((fulT s').map lby) ∧ Fr ASL h h') := by
  have F : Fr ASL h (sI (sI (sI (sI h 64 3 0) 64 7 0) 64 8 0) 64 1 (-1)) := (((Fr.I _ (Or.inl ⟨rfl, by decide⟩)).tr (Fr.I _ (Or.inl ⟨rfl, by decide⟩))).tr (Fr.I _ (Or.inl ⟨rfl, by decide⟩))).tr (Fr.I _ (Or.inl ⟨rfl, by decide⟩))
  have t : Tp (sI (sI (sI (sI h 64 3 0) 64 7 0) 64 8 0) 64 1 (-1)) n T 0 := by
    refine ⟨F.co co, ?_, fun k hk => ?_, ?_, by omega, n4⟩
    · rw [hI_sI, if_neg (by omega), hI_sI, if_neg (by omega), hI_sI, if_neg (by omega), hI_sI, if_neg (by omega)]; exact e0
    · rw [hI_sI, if_neg (by omega), hI_sI, if_neg (by omega), hI_sI, if_neg (by omega), hI_sI, if_neg (by omega)]; exact eT k hk
    · rw [hI_sI, if_neg (by omega), hI_sI, if_neg (by omega), hI_sI, if_neg (by omega), hI_sI, if_pos ⟨rfl, rfl⟩]; rfl
  have ck : Ck (sI (sI (sI (sI h 64 3 0) 64 7 0) 64 8 0) 64 1 (-1)) ts0 0 := by
    refine ⟨?_, ?_, (fun z => absurd z (Nat.lt_irrefl 0)), Nat.le_refl _⟩
    · rw [hI_sI, if_neg (by omega), hI_sI, if_neg (by omega), hI_sI, if_pos ⟨rfl, rfl⟩]; rfl
    · rw [hI_sI, if_neg (by omega), hI_sI, if_pos ⟨rfl, rfl⟩]; rfl
  have w2 : CLl (sI (sI (sI (sI h 64 3 0) 64 7 0) 64 8 0) 64 1 (-1)) 67 (lnT0 ts0 0) := by
    show CLl _ 67 []
    refine ⟨?_, fun k l e => by rw [List.getElem?_nil] at e; cases e⟩
    rw [hI_sI, if_neg (by omega), hI_sI, if_neg (by omega), hI_sI, if_neg (by omega), hI_sI, if_neg (by omega)]; exact w.1
  have main := c_txt (n + 1) 0 0 FU _ ts0 0 (by omega) (by omega) (by rw [FU_eq]; omega) t ts0_ok ck w2 (fun z => absurd z (Nat.lt_irrefl 0))
  have ed : decide ((0 : Nat) = 0) = true := rfl
  rw [ed] at main
  have go : ∀ R, fX5_readText_l22 FU 64 67 (i32 ((0 : Nat) : Int)) (sI (sI (sI (sI h 64 3 0) 64 7 0) 64 8 0) 64 1 (-1)) = R → fX5_readText 64 67 h = R := by
    intro R hR
    unfold fX5_readText
    rw [if_pos co.k64, lt_def, lt_def, lt_def, lt_def, lt_def]
    exact hR
  refine ⟨fun f hf => ?_, fun s' hv => ?_⟩
  · obtain ⟨h5, E5, g5, F5⟩ := main.1 f hf
    exact ⟨h5, go _ E5, g5, F.tr F5⟩
  · obtain ⟨ok5, h5, E5, g5, cl5, F5⟩ := main.2 s' hv
    refine ⟨ok5, h5, go _ E5, ?_, cl5, F.tr F5⟩
    rw [g5, hI_sI, if_pos ⟨rfl, rfl⟩]; rfl
end CX2
